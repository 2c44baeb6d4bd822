section
section
/-! Induction over a rule's words; a rule of consts has a sound value. -/
section EIN
variable {w : Nat → Int}
/-- c = 0 a rule, c = 1 a list of rules -/
def Eoc (w : Nat → Int) (c i j : Nat) : Prop := (c = 0 ∧ Eo w 6 i j) ∨ (c = 1 ∧ Eo w 7 i j)
theorem Eo_ind {P : Nat → Nat → Nat → Prop}
    (ask : ∀ i m q j : Nat, lo w i j = (m : Int) → i ≤ m → m < j → m < q → q < j → w m = 32 → w q = 33 → clq w m j = q → Eo w 6 i m → Eo w 6 (m + 1) q → Eo w 6 (q + 1) j → P 0 i m → P 0 (m + 1) q → P 0 (q + 1) j → P 0 i j)
    (bin : ∀ i m j : Nat, lo w i j = (m : Int) → i ≤ m → m < j → (18 ≤ w m ∧ w m ≤ 30) → Eo w 6 i m → Eo w 6 (m + 1) j → P 0 i m → P 0 (m + 1) j → P 0 i j)
    (par : ∀ i j : Nat, lo w i j = -1 → i < j → w i = 36 → w (j - 1) = 37 → Eo w 6 (i + 1) (j - 1) → P 0 (i + 1) (j - 1) → P 0 i j)
    (pre : ∀ i j : Nat, lo w i j = -1 → i < j → (w i = 25 ∨ w i = 31) → Eo w 6 (i + 1) j → P 0 (i + 1) j → P 0 i j)
    (leaf : ∀ i : Nat, lo w i (i + 1) = -1 → (w i = 1 ∨ w i = 2 ∨ w i = 12 ∨ w i = 13) → P 0 i (i + 1))
    (lst : ∀ i j : Nat, lo w i j = -1 → i < j → (w i = 14 ∨ w i = 15) → w (j - 1) = 37 → Eo w 7 (i + 2) (j - 1) → P 1 (i + 2) (j - 1) → P 0 i j)
    (one : ∀ i j : Nat, i < j → lcq w i (j - i) = 0 → Eo w 6 i j → P 0 i j → P 1 i j)
    (more : ∀ i m j : Nat, i < j → i ≤ m → m < j → lcq w i (j - i) = m - i + 1 → w m = 35 → Eo w 7 i m → Eo w 6 (m + 1) j → P 1 i m → P 0 (m + 1) j → P 1 i j) : ∀ (n c i j : Nat), 2 * (j - i) + c ≤ n → Eoc w c i j → P c i j := by
  intro n
  induction n with
  | zero =>
    intro c i j hn h
    rcases h with ⟨-, h⟩ | ⟨-, h⟩
    · have := h.pr.1; omega
    · have := h.pr.1; omega
  | succ n ih =>
    intro c i j hn h
    rcases h with ⟨rfl, h⟩ | ⟨rfl, h⟩
    · have hij := h.pr.1
      rcases h.sp with ⟨m, q, a1, a2, a3, a4, a5, a6⟩ | ⟨m, a1, a2, a3, a4⟩ | ⟨a1, a2, a3, a4⟩ | ⟨a1, a2, a3⟩ | ⟨a1, a2, a3⟩ | ⟨a1, a2, a3, a4, a5⟩
      · have l1 := a4.pr.1
        have l2 := a5.pr.1
        have l3 := a6.pr.1
        exact ask i m q j a1 (by omega) (by omega) (by omega) (by omega) a2 a3 (clq_eo a5 a3 (by omega)) (a4.one (by omega)) a5 a6 (ih 0 i m (by omega) (Or.inl ⟨rfl, a4.one (by omega)⟩)) (ih 0 (m + 1) q (by omega) (Or.inl ⟨rfl, a5⟩)) (ih 0 (q + 1) j (by omega) (Or.inl ⟨rfl, a6⟩))
      · have l1 := a3.pr.1
        have l2 := a4.pr.1
        exact bin i m j a1 (by omega) (by omega) (by omega) a3 a4 (ih 0 i m (by omega) (Or.inl ⟨rfl, a3⟩)) (ih 0 (m + 1) j (by omega) (Or.inl ⟨rfl, a4⟩))
      · have l1 := a4.pr.1
        exact par i j a1 hij a2 a3 a4 (ih 0 (i + 1) (j - 1) (by omega) (Or.inl ⟨rfl, a4⟩))
      · have l1 := a3.pr.1
        exact pre i j a1 hij a2 a3 (ih 0 (i + 1) j (by omega) (Or.inl ⟨rfl, a3⟩))
      · subst a2
        exact leaf i a1 a3
      · have l1 := a5.pr.1
        exact lst i j a1 hij a2 a4 a5 (ih 1 (i + 2) (j - 1) (by omega) (Or.inr ⟨rfl, a5⟩))
    · have hij := h.pr.1
      rcases h.lst with h6 | ⟨m, a1, a2, a3⟩
      · exact one i j hij (lcq_eo h6 (by omega)) h6 (ih 0 i j (by omega) (Or.inl ⟨rfl, h6⟩))
      · have l1 := a2.pr.1
        have l2 := a3.pr.1
        exact more i m j hij (by omega) (by omega) (lcq_7 a2 a1 a3) a1 a2 a3 (ih 1 i m (by omega) (Or.inr ⟨rfl, a2⟩)) (ih 0 (m + 1) j (by omega) (Or.inl ⟨rfl, a3⟩))
theorem fst9_1 {a b : Int × Int} : (fst9 a b).1 = 0 ↔ a.1 = 0 ∧ b.1 = 0 := by
  unfold fst9
  by_cases c : a.1 = 0
  · rw [if_pos c]; exact ⟨fun h => ⟨c, h⟩, fun h => h.2⟩
  · rw [if_neg c]; exact ⟨fun h => absurd h c, fun h => h.1⟩
theorem kft_1 {p : Prop} {x : Int} : (kft p x).1 = 0 ↔ p := by
  unfold kft
  by_cases c : p
  · rw [if_pos c]; exact ⟨fun _ => c, fun _ => rfl⟩
  · rw [if_neg c]; exact ⟨fun h => absurd h (by simp), fun h => absurd h c⟩
end EIN
/-- a sound result: k = 1 a truth -/
def vgd (k : Int) (v : vrs) : Prop := (v.1 = 0 ∧ v.2.1.natAbs ≤ 999999999 ∧ (1 ≤ v.2.2 ∧ v.2.2 ≤ 999999999) ∧ Int.gcd v.2.1 v.2.2 = 1 ∧ (k = 1 → (v.2.1 = 0 ∨ v.2.1 = 1) ∧ v.2.2 = 1)) ∨ (6 ≤ v.1 ∧ v.1 ≤ 8)
section VGD
theorem vgd_01 {k : Int} : vgd k (0, 1, 1) ∧ vgd k (0, 0, 1) := ⟨Or.inl ⟨rfl, by decide, by decide, by decide, fun _ => ⟨Or.inr rfl, rfl⟩⟩, Or.inl ⟨rfl, by decide, by decide, by decide, fun _ => ⟨Or.inl rfl, rfl⟩⟩⟩
theorem vgd_st {a b p : Int} (hb : 1 ≤ b) : vgd 0 (vst a b p) := by
  unfold vst
  have g0 : 0 < (Int.gcd a b : Int) := by
    have : 0 < Int.gcd a b := Int.gcd_pos_of_ne_zero_right _ (by omega)
    omega
  have gb : (Int.gcd a b : Int) ∣ b := Int.gcd_dvd_right a b
  have b1 : 1 ≤ b / (Int.gcd a b : Int) := (Int.le_ediv_iff_mul_le g0).mpr (by rw [Int.one_mul]; exact Int.le_of_dvd (by omega) gb)
  have gg : Int.gcd (a / (Int.gcd a b : Int)) (b / (Int.gcd a b : Int)) = 1 := Int.gcd_ediv_gcd_ediv_gcd_of_ne_zero_right (by omega)
  split
  · exact Or.inr ⟨by simp, by simp⟩
  · refine Or.inl ⟨rfl, ?_, ⟨b1, ?_⟩, gg, fun k => absurd k (by decide)⟩
    · show (a / (Int.gcd a b : Int)).natAbs ≤ 999999999
      omega
    · show b / (Int.gcd a b : Int) ≤ 999999999
      omega
theorem vgd_tr {k : Int} {p : Prop} [Decidable p] : vgd k (vtr p) := by
  unfold vtr
  split
  · exact vgd_01.1
  · exact vgd_01.2
theorem vgd_op {x a b c d p k : Int} (hb : 1 ≤ b ∧ b ≤ 999999999) (hd : 1 ≤ d ∧ d ≤ 999999999) (ha : a.natAbs ≤ 999999999) (hc : c.natAbs ≤ 999999999) (hk : k = 1 → x < 24 ∨ 28 < x) : vgd k (vop x a b c d p) := by
  have k0 : ∀ {v : vrs}, (24 ≤ x ∧ x ≤ 28) → vgd 0 v → vgd k v := fun {v} hx h => h.imp (fun q => ⟨q.1, q.2.1, q.2.2.1, q.2.2.2.1, fun e => by have := hk e; omega⟩) id
  have bd : 1 ≤ b * d := Int.mul_pos (show 0 < b by omega) (show 0 < d by omega)
  unfold vop
  by_cases c1 : x = 24
  · rw [if_pos c1]; exact k0 (by omega) (vgd_st bd)
  rw [if_neg c1]
  by_cases c2 : x = 25
  · rw [if_pos c2]; exact k0 (by omega) (vgd_st bd)
  rw [if_neg c2]
  by_cases c3 : x = 26
  · rw [if_pos c3]; exact k0 (by omega) (vgd_st bd)
  rw [if_neg c3]
  by_cases c4 : x = 27
  · rw [if_pos c4]
    by_cases e0 : c = 0
    · rw [if_pos e0]; exact Or.inr ⟨by simp, by simp⟩
    rw [if_neg e0]
    by_cases e1 : 0 < c
    · rw [if_pos e1]
      exact k0 (by omega) (vgd_st (Int.mul_pos (show 0 < b by omega) e1))
    · rw [if_neg e1]
      refine k0 (by omega) (vgd_st ?_)
      have := Int.mul_pos (show 0 < b by omega) (show 0 < -c by omega)
      rw [Int.mul_neg] at this
      omega
  rw [if_neg c4]
  by_cases c5 : x = 28
  · rw [if_pos c5]
    by_cases e0 : b ≠ 1 ∨ d ≠ 1
    · rw [if_pos e0]; exact Or.inr ⟨by simp, by simp⟩
    rw [if_neg e0]
    by_cases e1 : c ≤ 0
    · rw [if_pos e1]; exact Or.inr ⟨by simp, by simp⟩
    · rw [if_neg e1]
      have m1 := Int.emod_nonneg a (show c ≠ 0 by omega)
      have m2 := Int.emod_lt_of_pos a (show 0 < c by omega)
      refine k0 (by omega) (Or.inl ⟨rfl, ?_, ⟨Int.le_refl _, by simp⟩, ?_, fun u => absurd u (by decide)⟩)
      · show (a % c).natAbs ≤ 999999999
        omega
      · show Int.gcd (a % c) 1 = 1
        exact Int.gcd_one_right _
  rw [if_neg c5]
  split
  · exact vgd_tr
  split
  · exact vgd_tr
  split
  · exact vgd_tr
  split
  · exact vgd_tr
  split
  · exact vgd_tr
  · exact vgd_tr
theorem vgd_bs {k x a b c d : Int} (h1 : vgd k (0, a, b)) (h2 : vgd k (0, c, d)) : vgd k (vbs x a b c d) := by
  unfold vbs
  split <;> split
  · exact h2
  · exact h1
  · exact h2
  · exact h1
theorem vgd.bd {k : Int} {v : vrs} {f : Int → Int → vrs} {k' : Int} (h : vgd k v) (hf : ∀ a b, v = (0, a, b) → vgd k (0, a, b) → vgd k' (f a b)) : vgd k' (vbd v f) := by
  unfold vbd
  by_cases c : v.1 = 0
  · rw [if_pos c]
    refine hf _ _ (by rw [← c]) ?_
    rw [show (0, v.2.1, v.2.2) = v by rw [← c]]
    exact h
  · rw [if_neg c]
    rcases h with h | h
    · exact absurd h.1 c
    · exact Or.inr h
theorem vgd.n0 {k : Int} {v : vrs} (h : vgd k v) (k' : Int) (hk : k' ≠ 1) : vgd k' v := h.imp (fun q => ⟨q.1, q.2.1, q.2.2.1, q.2.2.2.1, fun e => absurd e hk⟩) id
/-- the value of a rule of consts is sound -/
theorem vl_ok {w E pl : Nat → Int} {cv : Nat → vrs} (hlf : ∀ k, (w k = 1 ∨ w k = 2 ∨ w k = 12 ∨ w k = 13) → (w k = 1 → E k ≠ -1) → vgd (if w k = 12 ∨ w k = 13 ∨ (w k = 1 ∧ E k = 1) then 1 else 0) (cv k)) : ∀ (n c i j : Nat), 2 * (j - i) + c ≤ n → Eoc w c i j → (fl w E pl c i j).1 = 0 → (c = 1 → kdq w E 1 i j ≠ 1) → ∀ x, vgd (kdq w E c i j) (vlq w cv pl c x i j) := by
  have n0 : ∀ {i j : Nat}, (0 : Nat) = 1 → kdq w E 1 i j ≠ 1 := fun u => absurd u (by decide)
  refine Eo_ind (P := fun c i j => (fl w E pl c i j).1 = 0 → (c = 1 → kdq w E 1 i j ≠ 1) → ∀ x, vgd (kdq w E c i j) (vlq w cv pl c x i j)) ?_ ?_ ?_ ?_ ?_ ?_ ?_ ?_
  · intro i m q j h1 h2 h3 h4 h5 h6 h7 h8 _ _ _ i1 i2 i3 hf hz x
    rw [fl_ask h1 h2 h3 h6 h8, fst9_1, fst9_1, fst9_1, kft_1] at hf
    obtain ⟨⟨⟨f1, f2⟩, f3⟩, k1, k2⟩ := hf
    rw [kd_ask h1 h2 h3 h6 h8, vl_ask h1 h2 h3 h6 h8]
    refine (i1 f1 n0 0).bd (fun a b _ _ => ?_)
    split
    · exact i3 f3 n0 0
    · rw [← k2]; exact i2 f2 n0 0
  · intro i m j h1 h2 h3 h4 _ _ i1 i2 hf hz x
    rw [fl_bin h1 h2 h3 (by omega), fst9_1, fst9_1, kft_1] at hf
    obtain ⟨⟨f1, f2⟩, k1⟩ := hf
    rw [kd_bin h1 h2 h3 (by omega)]
    have t1 : (w m = 29 ∨ w m = 30) → kdq w E 0 i m = 1 ∧ kdq w E 0 (m + 1) j = 1 := fun u => by unfold okq at k1; rw [if_pos u] at k1; exact k1
    have tr : (w m = 29 ∨ w m = 30) → tru (w m) := fun u => by unfold tru; omega
    by_cases c1 : w m = 29
    · rw [vl_and h1 h2 h3 c1, if_pos (tr (Or.inl c1))]
      obtain ⟨k1, k2⟩ := t1 (Or.inl c1)
      rw [k1] at i1
      rw [k2] at i2
      refine (i1 f1 n0 0).bd (fun a b _ g => ?_)
      split
      · exact g
      · exact i2 f2 n0 0
    by_cases c2 : w m = 30
    · rw [vl_or h1 h2 h3 c2, if_pos (tr (Or.inr c2))]
      obtain ⟨k1, k2⟩ := t1 (Or.inr c2)
      rw [k1] at i1
      rw [k2] at i2
      refine (i1 f1 n0 0).bd (fun a b _ g => ?_)
      split
      · exact i2 f2 n0 0
      · exact g
    · rw [vl_bin h1 h2 h3 (by omega) c1 c2]
      refine (i1 f1 n0 0).bd (fun a b _ g1 => (i2 f2 n0 0).bd (fun e f _ g2 => ?_))
      rcases g1 with ⟨-, a1, a2, -⟩ | ⟨a1, -⟩
      · rcases g2 with ⟨-, b1, b2, -⟩ | ⟨b1, -⟩
        · refine vgd_op a2 b2 a1 b1 (fun u => ?_)
          split at u
          · rename_i tt
            unfold tru at tt
            omega
          · exact absurd u (by decide)
        · exact absurd b1 (by simp)
      · exact absurd a1 (by simp)
  · intro i j h1 h2 h3 _ _ i1 hf hz x
    rw [fl_par h1 h2 h3] at hf
    rw [kd_par h1 h2 h3, vl_par h1 h2 h3]
    exact i1 hf n0 0
  · intro i j h1 h2 h3 _ i1 hf hz x
    rcases h3 with h3 | h3
    · rw [fl_neg h1 h2 h3, fst9_1, kft_1] at hf
      rw [kd_num h1 h2 (Or.inl h3), vl_neg h1 h2 h3]
      refine (i1 hf.1 n0 0).bd (fun a b _ g => ?_)
      rcases g with ⟨-, a1, a2, a3, -⟩ | ⟨a1, -⟩
      · refine Or.inl ⟨rfl, ?_, a2, ?_, fun u => absurd u (by decide)⟩
        · show (-a).natAbs ≤ 999999999
          rw [Int.natAbs_neg]; exact a1
        · show Int.gcd (-a) b = 1
          rw [Int.neg_gcd]; exact a3
      · exact absurd a1 (by simp)
    · rw [fl_not h1 h2 h3, fst9_1, kft_1] at hf
      rw [kd_tru h1 h2 (Or.inl h3), vl_not h1 h2 h3]
      rw [hf.2] at i1
      refine (i1 hf.1 n0 0).bd (fun a b _ g => ?_)
      rcases g with ⟨-, -, -, -, a3⟩ | ⟨a1, -⟩
      · obtain ⟨a4, a5⟩ := a3 rfl
        have a4 : a = 0 ∨ a = 1 := a4
        have a5 : b = 1 := a5
        subst a5
        rcases a4 with rfl | rfl
        · exact vgd_01.1
        · exact vgd_01.2
      · exact absurd a1 (by simp)
  · intro i h1 h3 hf hz x
    rw [fl_leaf h1 (by omega) h3] at hf
    have hne : w i = 1 → E i ≠ -1 := fun a b => by rw [if_pos ⟨a, b⟩] at hf; exact absurd hf (by simp)
    have hl := hlf i h3 hne
    rw [vl_leaf h1 (by omega) h3]
    rcases h3 with h3 | h3 | h3
    · rw [kd_nam h1 (by omega) h3]
      by_cases c : E i = 1
      · rw [if_pos (Or.inr (Or.inr ⟨h3, c⟩))] at hl
        rw [if_pos c]; exact hl
      · rw [if_neg (by omega)] at hl
        rw [if_neg c]; exact hl
    · rw [kd_num h1 (by omega) (Or.inr (Or.inl h3))]
      rw [if_neg (by omega)] at hl
      exact hl
    · rw [kd_tru h1 (by omega) (Or.inr h3)]
      rw [if_pos (by omega)] at hl
      exact hl
  · intro i j h1 h2 h3 _ _ i1 hf hz x
    rw [fl_lst h1 h2 h3, fst9_1, kft_1] at hf
    rw [kd_num h1 h2 (Or.inr (Or.inr h3)), vl_lst h1 h2 h3]
    have := i1 hf.1 (fun _ => by rw [hf.2]; decide) (w i)
    rw [hf.2] at this
    exact this
  · intro i j h1 h2 _ i1 hf hz x
    rw [fl_l1 h1 h2] at hf
    rw [kd_l1 h1 h2, vl_l1 h1 h2]
    exact i1 hf n0 0
  · intro i m j h1 h2 h3 h4 h5 _ _ i1 i2 hf hz x
    rw [fl_ln h1 h4 h2, fst9_1] at hf
    rw [kd_ln h1 h4 h2, vl_ln h1 h4 h2]
    have c : ¬ (kdq w E 1 i m = 1 ∨ kdq w E 0 (m + 1) j = 1) := fun c => hz rfl (by rw [kd_ln h1 h4 h2, if_pos c])
    rw [if_neg c]
    exact ((i1 hf.1 (fun _ u => c (Or.inl u)) x).n0 0 (by decide)).bd (fun a b _ g1 => ((i2 hf.2 n0 0).n0 0 (by decide)).bd (fun e f _ g2 => vgd_bs g1 g2))
end VGD
end
section
/-! The class's machine, exactly: the steps of run. -/
section RUX
variable {G : mG} {d z m U Ab0 Be0 C0 t c p O P K L i pc tt : Nat} {M0 M : mM} {Q : Int → mM → Prop} {a b : Int}
/-- program and machine of a run -/
def Rnv (M0 : mM) (z m Ab0 Be0 p O P K L : Nat) : Prop := PK M0 z p O P K ∧ mR M0 m 0 = p ∧ Mpr M0 z m p O P Ab0 Be0 ∧ mI M0 p 2 = L ∧ L ≤ K ∧ L ≤ 16384
theorem run_num (hE : Rnv M0 z m Ab0 Be0 p O P K L) (hpc : pc < L) (hi : i < 1000000) (hM : MS M0 z m U Ab0 Be0 C0 M t c) (ht : t ≤ 16384) (o : mI M0 O pc = 3) (next : ∀ M', MS M0 z m U Ab0 Be0 C0 M' (t + 1) c → mtq m M M' → plq M M' m t → ptq M' m t (mI M0 P pc) 1 → h_Ma_run_14 G (d + 3) m ((pc + 1 : Nat) : Int) ((i + 1 : Nat) : Int) M' Q) : h_Ma_run_14 G (d + 3) m (pc : Int) (i : Int) M Q := by
  obtain ⟨hp, hm0, ha, hL, hLK, hLn⟩ := hE
  obtain ⟨ok, k0, h8, kA, kB, tA, tB, bA, bB, hb, ⟨mA, mB⟩, ne⟩ := hM.pile
  obtain ⟨hp1, hr0, iO, iP, iT⟩ := hM.prog hp hm0 ha
  obtain ⟨pk, ⟨pr0, pr1⟩, ⟨kO, kP, nO, nP⟩, -, -, -, ⟨⟨-, -, -, p8, p9, -⟩, ⟨-, -, -, pk8, pk9, -⟩, ⟨-, -, -, pn8, pn9, -⟩⟩⟩ := id hp1
  have l2 : mI M p 2 = L := by rw [show p = p + 0 by first | rfl | omega, iT 0 (by omega)]; exact hL
  have no : ¬ ((1000000 : Int) ≤ (i : Int) ∨ ((pc : Int) < 0 ∨ mI M (mR M m 0) 2 ≤ (pc : Int))) := by rw [hr0, l2]; omega
  refine k_Ma_run_14 ok (i32s (by omega) (by omega)) ⟨by omega, by omega⟩ ⟨fun _ _ => ⟨k0, by rw [hr0]; exact pk⟩, fun y => absurd y no, fun _ => ?_⟩
  rw [hr0, pr0, pr1, p8, p9, pn8, pn9, nO, nP, iO, iP, Int.toNat_natCast, show ((i : Int) + 1) = ((i + 1 : Nat) : Int) by first | rfl | omega, show ((pc : Int) + 1) = ((pc + 1 : Nat) : Int) by first | rfl | omega]
  have i0 : i32 (mI M0 P pc) := by rw [← iP]; exact (ok _ _).1
  refine ⟨k0, pk, kO, by omega, kP, by omega, fun o0 => absurd o0 (by rw [o]; decide), fun _ => ⟨fun _ => (x_Ma_push hM ht i0 ⟨by omega, by omega⟩).mono (fun M' q => ⟨q.1.pile.1, next M' q.1 q.2.1 q.2.2.1 q.2.2.2⟩), fun o3 => absurd o o3⟩⟩
theorem run_cst {x : Nat} (hE : Rnv M0 z m Ab0 Be0 p O P K L) (hpc : pc < L) (hi : i < 1000000) (hM : MS M0 z m U Ab0 Be0 C0 M t c) (ht : t ≤ 16384) (o : mI M0 O pc = 4) (ox : mI M0 P pc = x) (hx : x < 60) (hv : 1 ≤ mI M0 (p + 7) x ∧ mI M0 (p + 7) x < 1000000000) (next : ∀ M', MS M0 z m U Ab0 Be0 C0 M' (t + 1) c → mtq m M M' → plq M M' m t → ptq M' m t (mI M0 (p + 6) x) (mI M0 (p + 7) x) → h_Ma_run_14 G (d + 3) m ((pc + 1 : Nat) : Int) ((i + 1 : Nat) : Int) M' Q) : h_Ma_run_14 G (d + 3) m (pc : Int) (i : Int) M Q := by
  obtain ⟨hp, hm0, ha, hL, hLK, hLn⟩ := hE
  obtain ⟨ok, k0, h8, kA, kB, tA, tB, bA, bB, hb, ⟨mA, mB⟩, ne⟩ := hM.pile
  obtain ⟨hp1, hr0, iO, iP, iT⟩ := hM.prog hp hm0 ha
  obtain ⟨pk, ⟨pr0, pr1⟩, ⟨kO, kP, nO, nP⟩, -, -, -, ⟨⟨-, -, -, p8, p9, -⟩, ⟨-, -, -, pk8, pk9, -⟩, ⟨-, -, -, pn8, pn9, -⟩⟩⟩ := id hp1
  have l2 : mI M p 2 = L := by rw [show p = p + 0 by first | rfl | omega, iT 0 (by omega)]; exact hL
  have no : ¬ ((1000000 : Int) ≤ (i : Int) ∨ ((pc : Int) < 0 ∨ mI M (mR M m 0) 2 ≤ (pc : Int))) := by rw [hr0, l2]; omega
  refine k_Ma_run_14 ok (i32s (by omega) (by omega)) ⟨by omega, by omega⟩ ⟨fun _ _ => ⟨k0, by rw [hr0]; exact pk⟩, fun y => absurd y no, fun _ => ?_⟩
  rw [hr0, pr0, pr1, p8, p9, pn8, pn9, nO, nP, iO, iP, Int.toNat_natCast, show ((i : Int) + 1) = ((i + 1 : Nat) : Int) by first | rfl | omega, show ((pc : Int) + 1) = ((pc + 1 : Nat) : Int) by first | rfl | omega]
  rw [ox, iT 6 (by omega), iT 7 (by omega), Int.toNat_natCast]
  have i0 : i32 (mI M0 (p + 6) x) := by rw [← iT 6 (by omega)]; exact (ok _ _).1
  refine ⟨k0, pk, kO, by omega, kP, by omega, fun o0 => absurd o0 (by rw [o]; decide), fun _ => ⟨fun o3 => absurd o3 (by rw [o]; decide), fun _ => ⟨fun _ => ⟨pk8, by omega, pk9, by omega, (x_Ma_push hM ht i0 hv).mono (fun M' q => ⟨q.1.pile.1, next M' q.1 q.2.1 q.2.2.1 q.2.2.2⟩)⟩, fun o4 => absurd o o4⟩⟩⟩
theorem run_jmp (hE : Rnv M0 z m Ab0 Be0 p O P K L) (hpc : pc < L) (hi : i < 1000000) (hM : MS M0 z m U Ab0 Be0 C0 M (t + 1) c) (o : mI M0 O pc = 30 ∨ mI M0 O pc = 31) (ot : mI M0 P pc = tt) (pt : ptq M m t a b) (yes : (mI M0 O pc = 30 ↔ a = 0) → ∀ M', MS M0 z m U Ab0 Be0 C0 M' (t + 1) c → mtq m M M' → plq M M' m (t + 1) → h_Ma_run_14 G (d + 3) m ((tt : Nat) : Int) ((i + 1 : Nat) : Int) M' Q) (nay : ¬ (mI M0 O pc = 30 ↔ a = 0) → ∀ M', MS M0 z m U Ab0 Be0 C0 M' t c → mtq m M M' → plq M M' m t → h_Ma_run_14 G (d + 3) m ((pc + 1 : Nat) : Int) ((i + 1 : Nat) : Int) M' Q) : h_Ma_run_14 G (d + 3) m (pc : Int) (i : Int) M Q := by
  obtain ⟨hp, hm0, ha, hL, hLK, hLn⟩ := hE
  obtain ⟨ok, k0, h8, kA, kB, tA, tB, bA, bB, hb, ⟨mA, mB⟩, ne⟩ := hM.pile
  obtain ⟨hp1, hr0, iO, iP, iT⟩ := hM.prog hp hm0 ha
  obtain ⟨pk, ⟨pr0, pr1⟩, ⟨kO, kP, nO, nP⟩, -, -, -, ⟨⟨-, -, -, p8, p9, -⟩, ⟨-, -, -, pk8, pk9, -⟩, ⟨-, -, -, pn8, pn9, -⟩⟩⟩ := id hp1
  have l2 : mI M p 2 = L := by rw [show p = p + 0 by first | rfl | omega, iT 0 (by omega)]; exact hL
  have no : ¬ ((1000000 : Int) ≤ (i : Int) ∨ ((pc : Int) < 0 ∨ mI M (mR M m 0) 2 ≤ (pc : Int))) := by rw [hr0, l2]; omega
  refine k_Ma_run_14 ok (i32s (by omega) (by omega)) ⟨by omega, by omega⟩ ⟨fun _ _ => ⟨k0, by rw [hr0]; exact pk⟩, fun y => absurd y no, fun _ => ?_⟩
  rw [hr0, pr0, pr1, p8, p9, pn8, pn9, nO, nP, iO, iP, Int.toNat_natCast, show ((i : Int) + 1) = ((i + 1 : Nat) : Int) by first | rfl | omega, show ((pc : Int) + 1) = ((pc + 1 : Nat) : Int) by first | rfl | omega]
  have q1 : Int.toNat (mI M m 8 - 1) = t := by omega
  rw [q1, pt.1, ot]
  refine ⟨k0, pk, kO, by omega, kP, by omega, fun o0 => absurd o0 (by omega), fun _ => ⟨fun o3 => absurd o3 (by omega), fun _ => ⟨fun o4 => absurd o4 (by omega), fun _ => ⟨fun o5 => absurd o5 (by omega), fun _ => ⟨fun o7 => absurd o7 (by omega), fun _ => ⟨fun _ => ⟨kA, by omega, fun v61 e61 v67 e67 v73 e73 v79 e79 v83 e83 => ?_⟩, fun o30 => absurd o o30⟩⟩⟩⟩⟩⟩
  have hv : v73 = 0 ↔ ¬ (mI M0 O pc = 30 ↔ a = 0) := by
    by_cases u : a = 0 <;> by_cases v : mI M0 O pc = 30 <;> simp only [u, v, if_true, if_false] at e61 e67 <;> subst e61 e67 <;> simp [u, v, e73]
  clear e73 e61 e67
  by_cases y : v73 = 0
  · rw [if_pos y] at e79 e83
    refine ⟨by rw [e83]; exact ⟨by omega, by omega⟩, fun M87 e87 => ?_⟩
    have w := ms_top (t' := t) hM (by omega) (by omega) e87
    rw [e79]
    exact nay (hv.mp y) M87 w.1 (mtq.fi w.2.2) (plq.fi w.2.2 ⟨mA, mB⟩)
  · rw [if_neg y] at e79 e83
    refine ⟨by rw [e83]; exact ⟨by omega, by omega⟩, fun M87 e87 => ?_⟩
    have w := ms_top (t' := t + 1) hM (by omega) (by omega) e87
    rw [e79]
    exact yes (Classical.byContradiction (fun u => y (hv.mpr u))) M87 w.1 (mtq.fi w.2.2) (plq.fi w.2.2 ⟨mA, mB⟩)
theorem run_ask (hE : Rnv M0 z m Ab0 Be0 p O P K L) (hpc : pc < L) (hi : i < 1000000) (hM : MS M0 z m U Ab0 Be0 C0 M (t + 1) c) (o : mI M0 O pc = 33) (ot : mI M0 P pc = tt) (pt : ptq M m t a b) (yes : a = 0 → ∀ M', MS M0 z m U Ab0 Be0 C0 M' t c → mtq m M M' → plq M M' m t → h_Ma_run_14 G (d + 3) m ((tt : Nat) : Int) ((i + 1 : Nat) : Int) M' Q) (nay : a ≠ 0 → ∀ M', MS M0 z m U Ab0 Be0 C0 M' t c → mtq m M M' → plq M M' m t → h_Ma_run_14 G (d + 3) m ((pc + 1 : Nat) : Int) ((i + 1 : Nat) : Int) M' Q) : h_Ma_run_14 G (d + 3) m (pc : Int) (i : Int) M Q := by
  obtain ⟨hp, hm0, ha, hL, hLK, hLn⟩ := hE
  obtain ⟨ok, k0, h8, kA, kB, tA, tB, bA, bB, hb, ⟨mA, mB⟩, ne⟩ := hM.pile
  obtain ⟨hp1, hr0, iO, iP, iT⟩ := hM.prog hp hm0 ha
  obtain ⟨pk, ⟨pr0, pr1⟩, ⟨kO, kP, nO, nP⟩, -, -, -, ⟨⟨-, -, -, p8, p9, -⟩, ⟨-, -, -, pk8, pk9, -⟩, ⟨-, -, -, pn8, pn9, -⟩⟩⟩ := id hp1
  have l2 : mI M p 2 = L := by rw [show p = p + 0 by first | rfl | omega, iT 0 (by omega)]; exact hL
  have no : ¬ ((1000000 : Int) ≤ (i : Int) ∨ ((pc : Int) < 0 ∨ mI M (mR M m 0) 2 ≤ (pc : Int))) := by rw [hr0, l2]; omega
  refine k_Ma_run_14 ok (i32s (by omega) (by omega)) ⟨by omega, by omega⟩ ⟨fun _ _ => ⟨k0, by rw [hr0]; exact pk⟩, fun y => absurd y no, fun _ => ?_⟩
  rw [hr0, pr0, pr1, p8, p9, pn8, pn9, nO, nP, iO, iP, Int.toNat_natCast, show ((i : Int) + 1) = ((i + 1 : Nat) : Int) by first | rfl | omega, show ((pc : Int) + 1) = ((pc + 1 : Nat) : Int) by first | rfl | omega]
  rw [ot]
  refine ⟨k0, pk, kO, by omega, kP, by omega, fun o0 => absurd o0 (by omega), fun _ => ⟨fun o3 => absurd o3 (by omega), fun _ => ⟨fun o4 => absurd o4 (by omega), fun _ => ⟨fun o5 => absurd o5 (by omega), fun _ => ⟨fun o7 => absurd o7 (by omega), fun _ => ⟨fun o30 => absurd o30 (by omega), fun _ => ⟨fun _ => ⟨⟨by omega, by omega⟩, fun M96 e96 => ?_⟩, fun o33 => absurd o o33⟩⟩⟩⟩⟩⟩⟩
  have w := ms_top (t' := t) hM (by omega) (by omega) e96
  have pq : plq M M96 m (t + 1) := plq.fi w.2.2 ⟨mA, mB⟩
  have pt' := pq.pt (by omega) pt
  obtain ⟨ok6, k06, h86, kA6, kB6, tA6, -⟩ := w.1.pile
  have lA : mN M96 (mR M96 m 6) = mN M (mR M m 6) := by rw [w.2.2.2.1, w.2.2.2.2.1]
  rw [h86, lA, Int.toNat_natCast, pt'.1]
  refine ⟨kA6, by omega, fun v101 e101 => ?_⟩
  by_cases y : a = 0
  · rw [if_pos y] at e101
    rw [e101]
    exact yes y M96 w.1 (mtq.fi w.2.2) (pq.mono (by omega))
  · rw [if_neg y] at e101
    rw [e101]
    exact nay y M96 w.1 (mtq.fi w.2.2) (pq.mono (by omega))
theorem run_els (hE : Rnv M0 z m Ab0 Be0 p O P K L) (hpc : pc < L) (hi : i < 1000000) (hM : MS M0 z m U Ab0 Be0 C0 M t c) (o : mI M0 O pc = 42) (ot : mI M0 P pc = tt) (next : h_Ma_run_14 G (d + 3) m ((tt : Nat) : Int) ((i + 1 : Nat) : Int) M Q) : h_Ma_run_14 G (d + 3) m (pc : Int) (i : Int) M Q := by
  obtain ⟨hp, hm0, ha, hL, hLK, hLn⟩ := hE
  obtain ⟨ok, k0, h8, kA, kB, tA, tB, bA, bB, hb, ⟨mA, mB⟩, ne⟩ := hM.pile
  obtain ⟨hp1, hr0, iO, iP, iT⟩ := hM.prog hp hm0 ha
  obtain ⟨pk, ⟨pr0, pr1⟩, ⟨kO, kP, nO, nP⟩, -, -, -, ⟨⟨-, -, -, p8, p9, -⟩, ⟨-, -, -, pk8, pk9, -⟩, ⟨-, -, -, pn8, pn9, -⟩⟩⟩ := id hp1
  have l2 : mI M p 2 = L := by rw [show p = p + 0 by first | rfl | omega, iT 0 (by omega)]; exact hL
  have no : ¬ ((1000000 : Int) ≤ (i : Int) ∨ ((pc : Int) < 0 ∨ mI M (mR M m 0) 2 ≤ (pc : Int))) := by rw [hr0, l2]; omega
  refine k_Ma_run_14 ok (i32s (by omega) (by omega)) ⟨by omega, by omega⟩ ⟨fun _ _ => ⟨k0, by rw [hr0]; exact pk⟩, fun y => absurd y no, fun _ => ?_⟩
  rw [hr0, pr0, pr1, p8, p9, pn8, pn9, nO, nP, iO, iP, Int.toNat_natCast, show ((i : Int) + 1) = ((i + 1 : Nat) : Int) by first | rfl | omega, show ((pc : Int) + 1) = ((pc + 1 : Nat) : Int) by first | rfl | omega]
  rw [ot]
  exact ⟨k0, pk, kO, by omega, kP, by omega, fun o0 => absurd o0 (by omega), fun _ => ⟨fun o3 => absurd o3 (by omega), fun _ => ⟨fun o4 => absurd o4 (by omega), fun _ => ⟨fun o5 => absurd o5 (by omega), fun _ => ⟨fun o7 => absurd o7 (by omega), fun _ => ⟨fun o30 => absurd o30 (by omega), fun _ => ⟨fun o33 => absurd o33 (by omega), fun _ => ⟨fun _ => next, fun o42 => absurd o o42⟩⟩⟩⟩⟩⟩⟩⟩
theorem run_cmp {v : vrs} {k : Nat} (hE : Rnv M0 z m Ab0 Be0 p O P K L) (hpc : pc < L) (hi : i < 1000000) (hM : MS M0 z m U Ab0 Be0 C0 M t c) (o : mI M0 O pc = 15 ∨ mI M0 O pc = 16 ∨ (19 ≤ mI M0 O pc ∧ mI M0 O pc ≤ 29) ∨ mI M0 O pc = 40 ∨ mI M0 O pc = 41) (hc : i32 (mI M0 O pc) → i32 (mI M0 P pc) → Ci G y_Ma_compute (d + 3) [vr m, vi (mI M0 O pc), vi (mI M0 P pc)] M (cpx M0 z m U Ab0 Be0 C0 M k c v)) (next : v.1 = 0 → ∀ M', MS M0 z m U Ab0 Be0 C0 M' (k + 1) c → mtq m M M' → plq M M' m k → ptq M' m k v.2.1 v.2.2 → h_Ma_run_14 G (d + 3) m ((pc + 1 : Nat) : Int) ((i + 1 : Nat) : Int) M' Q) (flt : v.1 ≠ 0 → ∀ M', mI M' m 1 = v.1 → mI M' m 2 = v.2.1 → (∃ t2, MS M0 z m U Ab0 Be0 C0 M' t2 c) → mtq m M M' → Q 0 M') : h_Ma_run_14 G (d + 3) m (pc : Int) (i : Int) M Q := by
  obtain ⟨hp, hm0, ha, hL, hLK, hLn⟩ := hE
  obtain ⟨ok, k0, h8, kA, kB, tA, tB, bA, bB, hb, ⟨mA, mB⟩, ne⟩ := hM.pile
  obtain ⟨hp1, hr0, iO, iP, iT⟩ := hM.prog hp hm0 ha
  obtain ⟨pk, ⟨pr0, pr1⟩, ⟨kO, kP, nO, nP⟩, -, -, -, ⟨⟨-, -, -, p8, p9, -⟩, ⟨-, -, -, pk8, pk9, -⟩, ⟨-, -, -, pn8, pn9, -⟩⟩⟩ := id hp1
  have l2 : mI M p 2 = L := by rw [show p = p + 0 by first | rfl | omega, iT 0 (by omega)]; exact hL
  have no : ¬ ((1000000 : Int) ≤ (i : Int) ∨ ((pc : Int) < 0 ∨ mI M (mR M m 0) 2 ≤ (pc : Int))) := by rw [hr0, l2]; omega
  refine k_Ma_run_14 ok (i32s (by omega) (by omega)) ⟨by omega, by omega⟩ ⟨fun _ _ => ⟨k0, by rw [hr0]; exact pk⟩, fun y => absurd y no, fun _ => ?_⟩
  rw [hr0, pr0, pr1, p8, p9, pn8, pn9, nO, nP, iO, iP, Int.toNat_natCast, show ((i : Int) + 1) = ((i + 1 : Nat) : Int) by first | rfl | omega, show ((pc : Int) + 1) = ((pc + 1 : Nat) : Int) by first | rfl | omega]
  have io : i32 (mI M0 O pc) := by rw [← iO]; exact (ok _ _).1
  have ix : i32 (mI M0 P pc) := by rw [← iP]; exact (ok _ _).1
  refine ⟨k0, pk, kO, by omega, kP, by omega, fun o0 => absurd o0 (by omega), fun _ => ⟨fun o3 => absurd o3 (by omega), fun _ => ⟨fun o4 => absurd o4 (by omega), fun _ => ⟨fun o5 => absurd o5 (by omega), fun _ => ⟨fun o7 => absurd o7 (by omega), fun _ => ⟨fun o30 => absurd o30 (by omega), fun _ => ⟨fun o33 => absurd o33 (by omega), fun _ => ⟨fun o42 => absurd o42 (by omega), fun _ => (hc io ix).mono (fun r M' q => ?_)⟩⟩⟩⟩⟩⟩⟩⟩
  obtain ⟨q1, q2⟩ := q
  rcases q1 with ⟨e1, w0, w1, w2, t2, w3⟩ | ⟨e1, w0, w1, w2, w3⟩
  · rw [e1]
    exact ⟨i32s (by omega) (by omega), w3.pile.1, fun _ => flt w0 M' w1 w2 ⟨t2, w3⟩ q2, fun u => absurd rfl u⟩
  · rw [e1]
    exact ⟨i32s (by omega) (by omega), w1.pile.1, fun u => absurd u (by decide), fun _ => next w0 M' w1 q2 w2 w3⟩
end RUX
end
end
section
section
/-! The class's machine, exactly: run over the orders of a rule. -/
section RUY
variable {G : mG} {d z m U Ab0 Be0 C0 cc p O P K L : Nat} {M0 : mM} {w E pl : Nat → Int} {cv : Nat → vrs} {ec : Nat → Int × Int}
theorem vbd_0 {v : vrs} {f : Int → Int → vrs} (h : v.1 = 0) : vbd v f = f v.2.1 v.2.2 := if_pos h
theorem vbd_1 {v : vrs} {f : Int → Int → vrs} (h : v.1 ≠ 0) : vbd v f = v := if_neg h
/-- what a leaf's order pushes -/
def Lfo (M0 : mM) (p : Nat) (w E : Nat → Int) (cv : Nat → vrs) (ec : Nat → Int × Int) (k : Nat) : Prop := vgd (if w k = 12 ∨ w k = 13 ∨ (w k = 1 ∧ E k = 1) then 1 else 0) (cv k) ∧ (((ec k).1 = 3 ∧ cv k = (0, (ec k).2, 1)) ∨ ((ec k).1 = 4 ∧ ∃ x : Nat, (ec k).2 = x ∧ x < 60 ∧ (1 ≤ mI M0 (p + 7) x ∧ mI M0 (p + 7) x < 1000000000) ∧ cv k = (0, mI M0 (p + 6) x, mI M0 (p + 7) x)))
/-- how a rule's orders run: v its value, c9 calls are open -/
def Rcp (G : mG) (d : Nat) (M0 : mM) (z m U Ab0 Be0 C0 cc : Nat) (v : vrs) (s e : Nat) : Prop := ∀ (t i : Nat) (M : mM) (Q : Int → mM → Prop), t + (e - s) ≤ 16384 → i + (e - s) ≤ 1000000 → MS M0 z m U Ab0 Be0 C0 M t cc →
  (∀ (M' : mM) (i' : Nat), v.1 = 0 → i' ≤ i + (e - s) → MS M0 z m U Ab0 Be0 C0 M' (t + 1) cc → mtq m M M' → plq M M' m t → ptq M' m t v.2.1 v.2.2 → h_Ma_run_14 G (d + 3) m (e : Int) (i' : Int) M' Q) →
  (∀ M' : mM, v.1 ≠ 0 → mI M' m 1 = v.1 → mI M' m 2 = v.2.1 → (∃ t2, MS M0 z m U Ab0 Be0 C0 M' t2 cc) → mtq m M M' → Q 0 M') → h_Ma_run_14 G (d + 3) m (s : Int) (i : Int) M Q
theorem vgd.un {k : Int} {v : vrs} (h : vgd k v) (h0 : v.1 = 0) : v.2.1.natAbs ≤ 999999999 ∧ (1 ≤ v.2.2 ∧ v.2.2 ≤ 999999999) ∧ Int.gcd v.2.1 v.2.2 = 1 := by
  rcases h with h | h
  · exact ⟨h.2.1, h.2.2.1, h.2.2.2.1⟩
  · omega
/-- two values and an order -/
theorem rcp_two {v1 v2 : vrs} {k1 k2 : Int} {s a b : Nat} (hF : FMx G) (hE : Rnv M0 z m Ab0 Be0 p O P K L) (hsa : s < a) (hab : a < b) (hb : b + 1 ≤ L) (o : mI M0 O b = 15 ∨ mI M0 O b = 16 ∨ (19 ≤ mI M0 O b ∧ mI M0 O b ≤ 29)) (g1 : vgd k1 v1) (g2 : vgd k2 v2) (r1 : Rcp G d M0 z m U Ab0 Be0 C0 cc v1 s a) (r2 : Rcp G d M0 z m U Ab0 Be0 C0 cc v2 a b) : Rcp G d M0 z m U Ab0 Be0 C0 cc (vbd v1 (fun x1 y1 => vbd v2 (fun x2 y2 => v2q (mI M0 O b) x1 y1 x2 y2 (mI M0 P b)))) s (b + 1) := by
  intro t i M Q ht hi hM next flt
  refine r1 t i M Q (by omega) (by omega) hM (fun M1 i1 z1 l1 h1 b1 p1 t1 => ?_) (fun M1 z1 e1 e2 h1 b1 => ?_)
  · rw [vbd_0 z1] at next flt
    refine r2 (t + 1) i1 M1 Q (by omega) (by omega) h1 (fun M2 i2 z2 l2 h2 b2 p2 t2 => ?_) (fun M2 z2 e1 e2 h2 b2 => ?_)
    · rw [vbd_0 z2] at next flt
      obtain ⟨x1, x2, x3⟩ := g1.un z1
      obtain ⟨y1, y2, y3⟩ := g2.un z2
      refine run_cmp hE (by omega) (by omega) h2 (by omega) (fun io ix => x_Ma_compute2 (s := t) hF io ix o h2 (p2.pt (by omega) t1) t2 x1 y1 x3 y3) (fun z3 M3 h3 b3 p3 t3 => ?_) (fun z3 M3 e1 e2 h3 b3 => ?_)
      · exact next M3 (i2 + 1) z3 (by omega) h3 ((b1.trans b2).trans b3) ((p1.trans (p2.mono (by omega))).trans p3) t3
      · exact flt M3 z3 e1 e2 h3 ((b1.trans b2).trans b3)
    · rw [vbd_1 z2] at flt
      exact flt M2 z2 e1 e2 h2 (b1.trans b2)
  · rw [vbd_1 z1] at flt
    exact flt M1 z1 e1 e2 h1 b1
theorem run_all (hF : FMx G) (hE : Rnv M0 z m Ab0 Be0 p O P K L) (hlf : ∀ k, (w k = 1 ∨ w k = 2 ∨ w k = 12 ∨ w k = 13) → (w k = 1 → E k ≠ -1) → Lfo M0 p w E cv ec k) : ∀ (n c i j : Nat), 2 * (j - i) + c ≤ n → Eoc w c i j → (fl w E pl c i j).1 = 0 → (c = 1 → kdq w E 1 i j ≠ 1) → ∀ (x y x' : Int) (s e : Nat), (c = 1 → x = x' + 1 ∧ (x = 15 ∨ x = 16)) → Cd w ec pl (mI M0 O) (mI M0 P) c x y i j s e → e ≤ L → Rcp G d M0 z m U Ab0 Be0 C0 cc (vlq w cv pl c x' i j) s e := by
  have vok := vl_ok (w := w) (E := E) (pl := pl) (cv := cv) (fun k h1 h2 => (hlf k h1 h2).1)
  have n0 : ∀ {i j : Nat}, (0 : Nat) = 1 → kdq w E 1 i j ≠ 1 := fun u => absurd u (by decide)
  have m0 : ∀ {x x' : Int}, (0 : Nat) = 1 → x = x' + 1 ∧ (x = 15 ∨ x = 16) := fun u => absurd u (by decide)
  refine Eo_ind (P := fun c i j => (fl w E pl c i j).1 = 0 → (c = 1 → kdq w E 1 i j ≠ 1) → ∀ (x y x' : Int) (s e : Nat), (c = 1 → x = x' + 1 ∧ (x = 15 ∨ x = 16)) → Cd w ec pl (mI M0 O) (mI M0 P) c x y i j s e → e ≤ L → Rcp G d M0 z m U Ab0 Be0 C0 cc (vlq w cv pl c x' i j) s e) ?_ ?_ ?_ ?_ ?_ ?_ ?_ ?_
  · intro i m1 q j h1 h2 h3 h4 h5 h6 h7 h8 _ _ _ i1 i2 i3 hf _ x y x' s e _ hc he
    rw [fl_ask h1 h2 h3 h6 h8, fst9_1, fst9_1, fst9_1] at hf
    obtain ⟨⟨⟨f1, f2⟩, f3⟩, -⟩ := hf
    rw [Cd_ask h1 h2 h3 h6 h8] at hc
    obtain ⟨a, b, c1, o1, p1, c2, o2, p2, c3⟩ := hc
    have l1 := c1.lt
    have l2 := c2.lt
    have l3 := c3.lt
    rw [vl_ask h1 h2 h3 h6 h8]
    intro t k M Q ht hk hM next flt
    refine i1 f1 n0 0 0 0 s a m0 c1 (by omega) t k M Q (by omega) (by omega) hM (fun M1 k1 z1 l1 g1 b1 p1' t1 => ?_) (fun M1 z1 e1 e2 g1 b1 => ?_)
    · rw [vbd_0 z1] at next flt
      refine run_ask (tt := b + 1) hE (by omega) (by omega) g1 o1 (by rw [p1]; omega) t1 (fun az M2 g2 b2 p2' => ?_) (fun az M2 g2 b2 p2' => ?_)
      · rw [if_pos az] at next flt
        exact i3 f3 n0 0 0 0 (b + 1) e m0 c3 he t (k1 + 1) M2 Q (by omega) (by omega) g2 (fun M3 k3 z3 l3 g3 b3 p3 t3 => next M3 k3 z3 (by omega) g3 ((b1.trans b2).trans b3) ((p1'.trans p2').trans p3) t3) (fun M3 z3 e1 e2 g3 b3 => flt M3 z3 e1 e2 g3 ((b1.trans b2).trans b3))
      · rw [if_neg az] at next flt
        refine i2 f2 n0 0 0 0 (a + 1) b m0 c2 (by omega) t (k1 + 1) M2 Q (by omega) (by omega) g2 (fun M3 k3 z3 l3 g3 b3 p3 t3 => ?_) (fun M3 z3 e1 e2 g3 b3 => flt M3 z3 e1 e2 g3 ((b1.trans b2).trans b3))
        exact run_els (tt := e) hE (by omega) (by omega) g3 o2 p2 (next M3 (k3 + 1) z3 (by omega) g3 ((b1.trans b2).trans b3) ((p1'.trans p2').trans p3) t3)
    · rw [vbd_1 z1] at flt
      exact flt M1 z1 e1 e2 g1 b1
  · intro i m1 j h1 h2 h3 h4 eo1 eo2 i1 i2 hf _ x y x' s e _ hc he
    rw [fl_bin h1 h2 h3 (by omega), fst9_1, fst9_1] at hf
    obtain ⟨⟨f1, f2⟩, -⟩ := hf
    by_cases c29 : w m1 = 29 ∨ w m1 = 30
    · rw [Cd_jmp h1 h2 h3 c29] at hc
      obtain ⟨a, c1, o1, p1, c2⟩ := hc
      have l1 := c1.lt
      have l2 := c2.lt
      intro t k M Q ht hk hM next flt
      refine i1 f1 n0 0 0 0 s a m0 c1 (by omega) t k M Q (by omega) (by omega) hM (fun M1 k1 z1 l1 g1 b1 p1' t1 => ?_) (fun M1 z1 e1 e2 g1 b1 => ?_)
      · refine run_jmp (tt := e) hE (by omega) (by omega) g1 (by omega) p1 t1 (fun yy M2 g2 b2 p2' => ?_) (fun yy M2 g2 b2 p2' => ?_)
        · have ev : vlq w cv pl 0 x' i j = (0, (vlq w cv pl 0 0 i m1).2.1, (vlq w cv pl 0 0 i m1).2.2) := by
            rcases c29 with c | c
            · rw [vl_and h1 h2 h3 c, vbd_0 z1, if_pos (yy.mp (by omega))]
            · rw [vl_or h1 h2 h3 c, vbd_0 z1, if_neg (fun u => absurd (yy.mpr u) (by omega))]
          rw [ev] at next
          exact next M2 (k1 + 1) rfl (by omega) g2 (b1.trans b2) (p1'.trans (p2'.mono (by omega))) (p2'.pt (by omega) t1)
        · have ev : vlq w cv pl 0 x' i j = vlq w cv pl 0 0 (m1 + 1) j := by
            rcases c29 with c | c
            · rw [vl_and h1 h2 h3 c, vbd_0 z1, if_neg (fun u => yy ⟨fun _ => u, fun _ => by omega⟩)]
            · rw [vl_or h1 h2 h3 c, vbd_0 z1, if_pos (Classical.byContradiction (fun u => yy ⟨fun v => absurd v (by omega), fun v => absurd v u⟩))]
          rw [ev] at next flt
          exact i2 f2 n0 0 0 0 (a + 1) e m0 c2 he t (k1 + 1) M2 Q (by omega) (by omega) g2 (fun M3 k3 z3 l3 g3 b3 p3 t3 => next M3 k3 z3 (by omega) g3 ((b1.trans b2).trans b3) ((p1'.trans p2').trans p3) t3) (fun M3 z3 e1 e2 g3 b3 => flt M3 z3 e1 e2 g3 ((b1.trans b2).trans b3))
      · have ev : vlq w cv pl 0 x' i j = vlq w cv pl 0 0 i m1 := by
          rcases c29 with c | c
          · rw [vl_and h1 h2 h3 c, vbd_1 z1]
          · rw [vl_or h1 h2 h3 c, vbd_1 z1]
        rw [ev] at flt
        exact flt M1 z1 e1 e2 g1 b1
    · rw [Cd_bin h1 h2 h3 (by omega) (by omega) (by omega)] at hc
      obtain ⟨a, b, c1, c2, rfl, o1, p1⟩ := hc
      have l1 := c1.lt
      have l2 := c2.lt
      have g1 := vok _ 0 i m1 (Nat.le_refl _) (Or.inl ⟨rfl, eo1⟩) f1 n0 0
      have g2 := vok _ 0 (m1 + 1) j (Nat.le_refl _) (Or.inl ⟨rfl, eo2⟩) f2 n0 0
      have r := rcp_two hF hE l1 l2 he (by omega) g1 g2 (i1 f1 n0 0 0 0 s a m0 c1 (by omega)) (i2 f2 n0 0 0 0 a b m0 c2 (by omega))
      rw [vl_bin h1 h2 h3 (by omega) (by omega) (by omega)]
      have ev : ∀ x1 y1 x2 y2 : Int, v2q (mI M0 O b) x1 y1 x2 y2 (mI M0 P b) = vop (w m1) x1 y1 x2 y2 (pl m1) := fun x1 y1 x2 y2 => by
        unfold v2q
        rw [if_neg (by omega), o1, p1, show w m1 + 1 - 1 = w m1 by first | rfl | omega]
      simp only [ev] at r
      exact r
  · intro i j h1 h2 h3 _ _ i1 hf _ x y x' s e _ hc he
    rw [fl_par h1 h2 h3] at hf
    rw [Cd_par h1 h2 h3] at hc
    rw [vl_par h1 h2 h3]
    exact i1 hf n0 0 0 0 s e m0 hc he
  · intro i j h1 h2 h3 eo1 i1 hf _ x y x' s e _ hc he
    rw [Cd_pre h1 h2 h3] at hc
    obtain ⟨b, c1, rfl, o1, p1⟩ := hc
    have l1 := c1.lt
    have f1 : (fl w E pl 0 (i + 1) j).1 = 0 := by
      rcases h3 with h3 | h3
      · rw [fl_neg h1 h2 h3, fst9_1] at hf; exact hf.1
      · rw [fl_not h1 h2 h3, fst9_1] at hf; exact hf.1
    have g1 := vok _ 0 (i + 1) j (Nat.le_refl _) (Or.inl ⟨rfl, eo1⟩) f1 n0 0
    have ev : vlq w cv pl 0 x' i j = vbd (vlq w cv pl 0 0 (i + 1) j) (fun a b => if w i = 25 then (0, -a, b) else (0, 1 - a, b)) := by
      rcases h3 with h3 | h3
      · rw [vl_neg h1 h2 h3]; simp only [h3, if_true]
      · rw [vl_not h1 h2 h3]; simp only [h3, Int.reduceEq, if_false]
    rw [ev]
    intro t k M Q ht hk hM next flt
    refine i1 f1 n0 0 0 0 s b m0 c1 (by omega) t k M Q (by omega) (by omega) hM (fun M1 k1 z1 l1 g1' b1 p1' t1 => ?_) (fun M1 z1 e1 e2 g1' b1 => ?_)
    · rw [vbd_0 z1] at next flt
      have oo : mI M0 O b = 40 ∨ mI M0 O b = 41 := by rw [o1]; split <;> simp
      have o25 : mI M0 O b = 40 ↔ w i = 25 := by rw [o1]; split <;> simp_all
      refine run_cmp hE (by omega) (by omega) g1' (by omega) (fun io ix => x_Ma_compute1 (x := mI M0 P b) io ix oo g1' t1 (g1.un z1).1) (fun z3 M3 h3 b3 p3 t3 => ?_) (fun z3 M3 e1 e2 h3 b3 => ?_)
      · simp only [o25] at t3
        exact next M3 (k1 + 1) (by split <;> rfl) (by omega) h3 (b1.trans b3) (p1'.trans p3) t3
      · exact absurd (by split <;> rfl) z3
    · rw [vbd_1 z1] at flt
      exact flt M1 z1 e1 e2 g1' b1
  · intro i h1 h3 hf _ x y x' s e _ hc he
    rw [fl_leaf h1 (by omega) h3] at hf
    have hne : w i = 1 → E i ≠ -1 := fun a b => by rw [if_pos ⟨a, b⟩] at hf; exact absurd hf (by simp)
    obtain ⟨-, hl⟩ := hlf i h3 hne
    rw [Cd_leaf h1 (by omega) h3] at hc
    obtain ⟨rfl, o1, p1⟩ := hc
    rw [vl_leaf h1 (by omega) h3]
    intro t k M Q ht hk hM next flt
    rcases hl with ⟨q1, q2⟩ | ⟨q1, xx, q2, q3, q4, q5⟩
    · rw [q2] at next
      refine run_num hE (by omega) (by omega) hM (by omega) (by rw [o1]; exact q1) (fun M1 g1 b1 p1' t1 => next M1 (k + 1) rfl (by omega) g1 b1 p1' (by rw [← p1]; exact t1))
    · rw [q5] at next
      exact run_cst hE (by omega) (by omega) hM (by omega) (by rw [o1]; exact q1) (by rw [p1]; exact q2) q3 q4 (fun M1 g1 b1 p1' t1 => next M1 (k + 1) rfl (by omega) g1 b1 p1' t1)
  · intro i j h1 h2 h3 _ _ i1 hf _ x y x' s e _ hc he
    rw [fl_lst h1 h2 h3, fst9_1, kft_1] at hf
    rw [Cd_lst h1 h2 h3] at hc
    rw [vl_lst h1 h2 h3]
    exact i1 hf.1 (fun _ => by rw [hf.2]; decide) (w i + 1) (pl i) (w i) s e (fun _ => ⟨rfl, by omega⟩) hc he
  · intro i j h1 h2 _ i1 hf _ x y x' s e _ hc he
    rw [fl_l1 h1 h2] at hf
    rw [Cd_l1 h1 h2] at hc
    rw [vl_l1 h1 h2]
    exact i1 hf n0 0 0 0 s e m0 hc he
  · intro i m1 j h1 h2 h3 h4 h5 eo1 eo2 i1 i2 hf hz x y x' s e hx hc he
    obtain ⟨hx1, hx2⟩ := hx rfl
    rw [fl_ln h1 h4 h2, fst9_1] at hf
    have cz : ¬ (kdq w E 1 i m1 = 1 ∨ kdq w E 0 (m1 + 1) j = 1) := fun c => hz rfl (by rw [kd_ln h1 h4 h2, if_pos c])
    rw [Cd_ln h1 h4 h2] at hc
    obtain ⟨a, b, c1, c2, rfl, o1, p1⟩ := hc
    have l1 := c1.lt
    have l2 := c2.lt
    have z1 : (1 : Nat) = 1 → kdq w E 1 i m1 ≠ 1 := fun _ u => cz (Or.inl u)
    have g1 := vok _ 1 i m1 (Nat.le_refl _) (Or.inr ⟨rfl, eo1⟩) hf.1 z1 x'
    have g2 := vok _ 0 (m1 + 1) j (Nat.le_refl _) (Or.inl ⟨rfl, eo2⟩) hf.2 n0 0
    have r := rcp_two hF hE l1 l2 he (by omega) g1 g2 (i1 hf.1 z1 x y x' s a (fun _ => ⟨hx1, hx2⟩) c1 (by omega)) (i2 hf.2 n0 0 0 0 a b m0 c2 (by omega))
    rw [vl_ln h1 h4 h2]
    have ev : ∀ x1 y1 x2 y2 : Int, v2q (mI M0 O b) x1 y1 x2 y2 (mI M0 P b) = vbs x' x1 y1 x2 y2 := fun x1 y1 x2 y2 => by
      unfold v2q
      rw [if_pos (by omega), o1, show x - 1 = x' by first | rfl | omega]
    simp only [ev] at r
    exact r
theorem run_end {M : mM} {t i pc : Nat} {Q : Int → mM → Prop} (hE : Rnv M0 z m Ab0 Be0 p O P K L) (hpc : pc < L) (hi : i < 1000000) (hM : MS M0 z m U Ab0 Be0 C0 M t 0) (o : mI M0 O pc = 0) (fin : Q 1 M) : h_Ma_run_14 G (d + 3) m (pc : Int) (i : Int) M Q := by
  obtain ⟨hp, hm0, ha, hL, hLK, hLn⟩ := hE
  obtain ⟨ok, k0, h8, -⟩ := hM.pile
  obtain ⟨hp1, hr0, iO, iP, iT⟩ := hM.prog hp hm0 ha
  obtain ⟨pk, ⟨pr0, pr1⟩, ⟨kO, kP, nO, nP⟩, -⟩ := id hp1
  have l2 : mI M p 2 = L := by rw [show p = p + 0 by first | rfl | omega, iT 0 (by omega)]; exact hL
  have no : ¬ ((1000000 : Int) ≤ (i : Int) ∨ ((pc : Int) < 0 ∨ mI M (mR M m 0) 2 ≤ (pc : Int))) := by rw [hr0, l2]; omega
  have h15 : mI M m 15 = 0 := by
    obtain ⟨_, _, _, -, -, -, -, -, -, h15, -⟩ := id hM
    exact h15
  refine k_Ma_run_14 ok (i32s (by omega) (by omega)) ⟨by omega, by omega⟩ ⟨fun _ _ => ⟨k0, by rw [hr0]; exact pk⟩, fun y => absurd y no, fun _ => ?_⟩
  rw [hr0, pr0, pr1, nO, nP, iO, iP, Int.toNat_natCast]
  exact ⟨k0, pk, kO, by omega, kP, by omega, fun _ => ⟨fun _ => fin, fun u => absurd h15 u⟩, fun u => absurd o u⟩
/-- what a rule of consts comes to -/
def rnx (m : Nat) (v : vrs) (r : Int) (M' : mM) : Prop := (r = 0 ∧ v.1 ≠ 0 ∧ mI M' m 1 = v.1 ∧ mI M' m 2 = v.2.1) ∨ (r = 1 ∧ v.1 = 0 ∧ ptq M' m 0 v.2.1 v.2.2)
theorem x_Ma_run {X : Nat → Prop} {i j s e : Nat} (hF : FMx G) (ok : mOk M0) (hk : MK M0 z m U Ab0 Be0 C0) (hT : MT M0 m X) (hE : Rnv M0 z m Ab0 Be0 p O P K L) (hlf : ∀ k, (w k = 1 ∨ w k = 2 ∨ w k = 12 ∨ w k = 13) → (w k = 1 → E k ≠ -1) → Lfo M0 p w E cv ec k) (eo : Eo w 6 i j) (hf : (fl w E pl 0 i j).1 = 0) (hc : Cd w ec pl (mI M0 O) (mI M0 P) 0 0 0 i j s e) (he : e < L) (oe : mI M0 O e = 0) : Ci G y_Ma_run (d + 4) [vr m, vi s] M0 (fun r M' => rnQ M0 z m U Ab0 Be0 C0 X 1 r M' ∧ rnx m (vlq w cv pl 0 0 i j) r M') := by
  have c64 := hk.2.2.2.2.2.2.2
  have hLn := hE.2.2.2.2.2
  have lse := hc.lt
  refine k_Ma_run ok (i32s (by omega) (by omega)) ⟨hk.1, fun M2 e2 M4 e4 => ?_⟩
  have f2 : FI (fun b => b = m) M0 M2 := by rw [e2]; exact FI.ui rfl
  have f4 : FI (fun b => b = m) M2 M4 := by rw [e4]; exact FI.ui rfl
  have ff := f2.trans f4
  have g : ∀ i, mI M4 m i = if i = 15 then 0 else if i = 8 then 0 else mI M0 m i := fun i => by
    rw [mI_ui m i e4]
    by_cases y : i = 15
    · rw [if_pos ⟨rfl, y⟩, if_pos y]
    · rw [if_neg (fun q => y q.2), if_neg y, mI_ui m i e2]
      by_cases y8 : i = 8
      · rw [if_pos ⟨rfl, y8⟩, if_pos y8]
      · rw [if_neg (fun q => y8 q.2), if_neg y8]
  have o4 : mOk M4 := by rw [e4]; exact mOk_UI (by rw [e2]; exact mOk_UI ok (i32s (by omega) (by omega))) (i32s (by omega) (by omega))
  have hM : MS M0 z m U Ab0 Be0 C0 M4 0 0 := ms_step (M := M0) (t' := 0) (c' := 0) o4 hk FA.refl ⟨Or.inl rfl, Or.inl rfl⟩ ⟨rfl, Nat.le_refl _⟩ ⟨rfl, rfl, rfl⟩ (ff.mono (fun _ q => Or.inl q)) (by rw [g, if_neg (by decide), if_neg (by decide)]) (by rw [g, if_neg (by decide), if_neg (by decide)]) (by rw [g, if_neg (by decide), if_pos rfl]; rfl) (by omega) (fun j hj => absurd hj (by omega)) (by rw [g, if_pos rfl]; rfl)
  have hb : mtq m M0 M4 := mtq.fi ff
  have hT4 : MT M4 m X := hT.mtb hb.mtb (by rw [g, if_neg (by decide), if_neg (by decide)])
  refine run_all (cv := cv) hF hE hlf _ 0 i j (Nat.le_refl _) (Or.inl ⟨rfl, eo⟩) hf (fun u => absurd u (by decide)) 0 0 0 s e (fun u => absurd u (by decide)) hc (by omega) 0 0 M4 _ (by omega) (by omega) hM (fun M' i' z1 l1 h1 b1 _ t1 => ?_) (fun M' z1 e1 e2 h1 b1 => ?_)
  · exact run_end hE he (by omega) h1 oe ⟨⟨hT4.mtb b1.mtb (by rw [h1.nine, hM.nine]), Or.inr ⟨rfl, h1⟩⟩, Or.inr ⟨rfl, z1, t1⟩⟩
  · obtain ⟨t2, h2⟩ := h1
    exact ⟨⟨hT4.mtb b1.mtb (by rw [h2.nine, hM.nine]), Or.inl ⟨rfl, by rw [e1]; exact z1, t2, 0, h2⟩⟩, Or.inl ⟨rfl, z1, e1, e2⟩⟩
end RUY
end
section
/-! What a text of items means: pure. w kinds of words, pl places, nq numbers, sm words with the same letters, N how many words. -/
/-- a name: its word, its sort (1 const, 2 formula, 3 var), its kind (1 a truth), a const's value -/
abbrev nm9 : Type := Nat × Nat × Int × vrs
/-- names; how many vars, rules, commands, targets; the first fault -/
abbrev st9 : Type := List nm9 × (Nat × Nat × Nat × Nat) × (Int × Int)
section ITP
variable (w pl nq : Nat → Int) (sm : Nat → Nat → Prop) (N : Nat)
noncomputable def fnd9 (nms : List nm9) (k : Nat) : Option nm9 := nms.find? (fun e => @decide (sm e.1 k) (Classical.propDecidable _))
/-- the kind of the word k as a name; co = 1: consts alone; -1: unknown -/
noncomputable def E9 (nms : List nm9) (co : Int) (k : Nat) : Int := match fnd9 sm nms k with
  | none => -1
  | some e => if co = 1 ∧ e.2.1 ≠ 1 then -1 else e.2.2.1
/-- what the word k is worth -/
noncomputable def cv9 (nms : List nm9) (k : Nat) : vrs := if w k = 1 then (match fnd9 sm nms k with
  | none => (0, 0, 1)
  | some e => e.2.2.2) else if w k = 2 then (0, nq k, 1) else if w k = 12 then (0, 1, 1) else (0, 0, 1)
/-- the fault of a rule that must be a truth (tr = 1) or a number (tr = 0) -/
noncomputable def rf9 (nms : List nm9) (co tr : Int) (i j : Nat) : Int × Int := fst9 (fl w (E9 sm nms co) pl 0 i j) (kft (kdq w (E9 sm nms co) 0 i j = tr) (pl i))
/-- the first x from k on, within f words -/
def nxq (x : Int) : Nat → Nat → Nat
  | 0, k => k
  | f + 1, k => if w k = x then k else nxq x f (k + 1)
/-- the ')' that closes what begins at i -/
def cp1 (i : Nat) : Nat → Nat → Nat
  | 0, m => m
  | f + 1, m => if dp w i m = 0 ∧ w (i + m) = 37 then m else cp1 i f (m + 1)
def cpq (i j : Nat) : Nat := i + cp1 w i (j - i) 0
/-- a const's value, a whole one if it must be one: fault or (0, value) -/
def wh9 (v : vrs) (p : Int) : Int × Int := if v.1 ≠ 0 then (v.1, v.2.1) else if v.2.2 ≠ 1 then (8, p) else (0, 0)
/-- a const or a formula -/
noncomputable def itr (k e : Nat) (s : st9) : st9 :=
  let co : Int := if w k = 3 then 1 else 0
  let f := fl w (E9 sm s.1 co) pl 0 (k + 3) e
  let v : vrs := if w k = 3 then vlq w (cv9 w nq sm s.1) pl 0 0 (k + 3) e else (0, 0, 1)
  if s.2.1.2.1 = 60 then (s.1, s.2.1, (5, pl k))
  else if fnd9 sm s.1 (k + 1) ≠ none then (s.1, s.2.1, (2, pl (k + 1)))
  else if f.1 ≠ 0 then (s.1, s.2.1, f)
  else if v.1 ≠ 0 then (s.1, s.2.1, (v.1, v.2.1))
  else (s.1 ++ [(k + 1, (if w k = 3 then 1 else 2), kdq w (E9 sm s.1 co) 0 (k + 3) e, v)], (s.2.1.1, s.2.1.2.1 + 1, s.2.1.2.2), (0, 0))
/-- a var: the faults of its rules -/
noncomputable def vf9 (nms : List nm9) (k e rg ini : Nat) : Int × Int := fst9 (fst9 (if w (k + 3) = 5 then (0, 0) else fst9 (rf9 w pl sm nms 1 0 (k + 3) rg) (rf9 w pl sm nms 1 0 (rg + 1) ini)) (if w ini = 9 then rf9 w pl sm nms 1 (if w (k + 3) = 5 then 1 else 0) (ini + 1) e else (0, 0))) (0, 0)
/-- a var: the faults of its values -/
noncomputable def vw9 (nms : List nm9) (k e rg ini : Nat) : Int × Int :=
  let lo := vlq w (cv9 w nq sm nms) pl 0 0 (k + 3) rg
  let hi := vlq w (cv9 w nq sm nms) pl 0 0 (rg + 1) ini
  let be := vlq w (cv9 w nq sm nms) pl 0 0 (ini + 1) e
  fst9 (if w (k + 3) = 5 then (0, 0) else fst9 (fst9 (wh9 lo (pl (k + 3))) (wh9 hi (pl (rg + 1)))) (if lo.2.1 ≤ hi.2.1 ∧ hi.2.1 - lo.2.1 < 10000 then (0, 0) else (9, pl (rg + 1))))
    (if w ini = 9 then (if w (k + 3) = 5 then wh9 be (pl (ini + 1)) else fst9 (wh9 be (pl (ini + 1))) (if lo.2.1 ≤ be.2.1 ∧ be.2.1 ≤ hi.2.1 then (0, 0) else (9, pl (ini + 1)))) else (0, 0))
noncomputable def itv (k e : Nat) (s : st9) : st9 :=
  let rg := nxq w 16 N (k + 3)
  let ini := if w (k + 3) = 5 then k + 4 else nxq w 9 (e - (k + 3)) (k + 3)
  if s.2.1.1 = 12 then (s.1, s.2.1, (5, pl k))
  else if fnd9 sm s.1 (k + 1) ≠ none then (s.1, s.2.1, (2, pl (k + 1)))
  else if (vf9 w pl sm s.1 k e rg ini).1 ≠ 0 then (s.1, s.2.1, vf9 w pl sm s.1 k e rg ini)
  else if (vw9 w pl nq sm s.1 k e rg ini).1 ≠ 0 then (s.1, s.2.1, vw9 w pl nq sm s.1 k e rg ini)
  else (s.1 ++ [(k + 1, 3, (if w (k + 3) = 5 then 1 else 0), (0, 0, 1))], (s.2.1.1 + 1, s.2.1.2), (0, 0))
noncomputable def itt (k e : Nat) (s : st9) : st9 :=
  let f := rf9 w pl sm s.1 0 1 (k + 1) e
  if s.2.1.2.2.2 ≠ 0 then (s.1, s.2.1, (4, pl k))
  else if f.1 ≠ 0 then (s.1, s.2.1, f)
  else (s.1, (s.2.1.1, s.2.1.2.1, s.2.1.2.2.1, 1), (0, 0))
/-- the sets of a branch, from k on: the first fault, and where they end -/
noncomputable def sef (nms : List nm9) : Nat → Nat → List Nat → (Int × Int) × Nat
  | 0, k, _ => ((0, 0), k)
  | f + 1, k, seen => match fnd9 sm nms (k + 1) with
    | none => ((2, pl (k + 1)), k)
    | some e => if e.2.1 ≠ 3 then ((2, pl (k + 1)), k) else if e.1 ∈ seen then ((4, pl (k + 1)), k)
      else if (rf9 w pl sm nms 0 e.2.2.1 (k + 4) (cpq w (k + 4) N)).1 ≠ 0 then (rf9 w pl sm nms 0 e.2.2.1 (k + 4) (cpq w (k + 4) N), k)
      else if w (cpq w (k + 4) N + 1) = 29 then sef nms f (cpq w (k + 4) N + 2) (e.1 :: seen) else ((0, 0), cpq w (k + 4) N + 1)
/-- the branches of a command, from the word i on; b have been read; the item ends at e -/
noncomputable def brf (nms : List nm9) (e : Nat) : Nat → Nat → Nat → Int × Int
  | 0, _, _ => (0, 0)
  | f + 1, i, b => if e ≤ i then (0, 0) else if b = 8 then (5, pl i)
    else if (rf9 w pl sm nms 0 0 i (clq w (i - 1) N)).1 ≠ 0 then rf9 w pl sm nms 0 0 i (clq w (i - 1) N)
    else if w (clq w (i - 1) N + 1) = 10 then brf nms e f (clq w (i - 1) N + 3) (b + 1)
    else if (sef w pl sm N nms N (clq w (i - 1) N + 1) []).1.1 ≠ 0 then (sef w pl sm N nms N (clq w (i - 1) N + 1) []).1
    else brf nms e f ((sef w pl sm N nms N (clq w (i - 1) N + 1) []).2 + 1) (b + 1)
/-- a command; mc how many there may be -/
noncomputable def itc (mc k e : Nat) (s : st9) : st9 :=
  let ar := nxq w 17 N (k + 1)
  let f := fst9 (rf9 w pl sm s.1 0 1 (k + 1) ar) (brf w pl sm N s.1 e N (ar + 1) 0)
  if s.2.1.2.2.1 = mc then (s.1, s.2.1, (5, pl k))
  else if f.1 ≠ 0 then (s.1, s.2.1, f)
  else (s.1, (s.2.1.1, s.2.1.2.1, s.2.1.2.2.1 + 1, s.2.1.2.2.2), (0, 0))
/-- the item at k -/
noncomputable def ite9 (mc k : Nat) (s : st9) : st9 :=
  let e := nxq w 34 N k
  if w k = 3 ∨ w k = 6 then itr w pl nq sm k e s else if w k = 4 then itv w pl nq sm N k e s else if w k = 11 then itt w pl sm k e s else itc w pl sm N mc k e s
/-- all items from k on -/
noncomputable def its9 (mc : Nat) : Nat → Nat → st9 → st9
  | 0, _, s => s
  | f + 1, k, s => if s.2.2.1 ≠ 0 then s else if w k = 0 then (if s.2.1.2.2.2 = 0 then (s.1, s.2.1, (10, pl k)) else s) else its9 mc f (nxq w 34 N k + 1) (ite9 w pl nq sm N mc k s)
end ITP
section ITQ
variable {w pl nq : Nat → Int} {sm : Nat → Nat → Prop} {N : Nat}
theorem nxq_at {x : Int} : ∀ {f k e : Nat}, k ≤ e → e ≤ k + f → w e = x → (∀ j, k ≤ j → j < e → w j ≠ x) → nxq w x f k = e
  | 0, k, e, h1, h2, _, _ => by show k = e; omega
  | f + 1, k, e, h1, h2, h3, h4 => by
    unfold nxq
    by_cases c : k = e
    · subst c
      rw [if_pos h3]
    · rw [if_neg (h4 k (Nat.le_refl _) (by omega))]
      exact nxq_at (by omega) (by omega) h3 (fun j a b => h4 j (by omega) b)
theorem nxq_no {x : Int} : ∀ {f k : Nat}, (∀ j, k ≤ j → j < k + f → w j ≠ x) → nxq w x f k = k + f
  | 0, k, _ => rfl
  | f + 1, k, h => by
    unfold nxq
    rw [if_neg (h k (Nat.le_refl _) (by omega)), nxq_no (fun j a b => h j (by omega) (by omega))]
    omega
theorem cp1_at {i l : Nat} (b : Bl w i l) (h : w (i + l) = 37) : ∀ f m, m ≤ l → l ≤ m + f → cp1 w i f m = l
  | 0, m, h1, h2 => by show m = l; omega
  | f + 1, m, h1, h2 => by
    unfold cp1
    by_cases e : m = l
    · rw [if_pos ⟨by rw [e]; exact b.1, by rw [e]; exact h⟩]; exact e
    · rw [if_neg]
      · exact cp1_at b h f (m + 1) (by omega) (by omega)
      · intro ⟨q1, q2⟩
        have := (b.2.2.1 (m + 1) (by omega)).1
        rw [dp_s, q1, if_neg (by omega), if_pos q2] at this
        omega
theorem cpq_at {i j N : Nat} (he : Eo w 6 i j) (h : w j = 37) (hj : j < N) : cpq w i N = j := by
  have p := he.pr
  have := p.1
  unfold cpq
  rw [cp1_at (l := j - i) p.2.2.2.2.1 (by rw [show i + (j - i) = j by first | rfl | omega]; exact h) _ _ (by omega) (by omega)]
  omega
end ITQ
end
end
section
section
/-! A rule's value depends on its words' values alone. -/
section VCG
variable {w E pl : Nat → Int} {cv cv' : Nat → vrs}
theorem vl_cg (hc : ∀ k, (w k = 1 ∨ w k = 2 ∨ w k = 12 ∨ w k = 13) → (w k = 1 → E k ≠ -1) → cv k = cv' k) : ∀ (n c i j : Nat), 2 * (j - i) + c ≤ n → Eoc w c i j → (fl w E pl c i j).1 = 0 → ∀ x, vlq w cv pl c x i j = vlq w cv' pl c x i j := by
  refine Eo_ind (P := fun c i j => (fl w E pl c i j).1 = 0 → ∀ x, vlq w cv pl c x i j = vlq w cv' pl c x i j) ?_ ?_ ?_ ?_ ?_ ?_ ?_ ?_
  · intro i m q j h1 h2 h3 h4 h5 h6 h7 h8 _ _ _ i1 i2 i3 hf x
    rw [fl_ask h1 h2 h3 h6 h8, fst9_1, fst9_1, fst9_1] at hf
    obtain ⟨⟨⟨f1, f2⟩, f3⟩, -⟩ := hf
    rw [vl_ask h1 h2 h3 h6 h8, vl_ask h1 h2 h3 h6 h8, i1 f1 0, i2 f2 0, i3 f3 0]
  · intro i m j h1 h2 h3 h4 _ _ i1 i2 hf x
    rw [fl_bin h1 h2 h3 (by omega), fst9_1, fst9_1] at hf
    obtain ⟨⟨f1, f2⟩, -⟩ := hf
    by_cases c1 : w m = 29
    · rw [vl_and h1 h2 h3 c1, vl_and h1 h2 h3 c1, i1 f1 0, i2 f2 0]
    by_cases c2 : w m = 30
    · rw [vl_or h1 h2 h3 c2, vl_or h1 h2 h3 c2, i1 f1 0, i2 f2 0]
    · rw [vl_bin h1 h2 h3 (by omega) c1 c2, vl_bin h1 h2 h3 (by omega) c1 c2, i1 f1 0, i2 f2 0]
  · intro i j h1 h2 h3 _ _ i1 hf x
    rw [fl_par h1 h2 h3] at hf
    rw [vl_par h1 h2 h3, vl_par h1 h2 h3]
    exact i1 hf 0
  · intro i j h1 h2 h3 _ i1 hf x
    rcases h3 with h3 | h3
    · rw [fl_neg h1 h2 h3, fst9_1] at hf
      rw [vl_neg h1 h2 h3, vl_neg h1 h2 h3, i1 hf.1 0]
    · rw [fl_not h1 h2 h3, fst9_1] at hf
      rw [vl_not h1 h2 h3, vl_not h1 h2 h3, i1 hf.1 0]
  · intro i h1 h3 hf x
    rw [fl_leaf h1 (by omega) h3] at hf
    have hne : w i = 1 → E i ≠ -1 := fun a b => by rw [if_pos ⟨a, b⟩] at hf; exact absurd hf (by simp)
    rw [vl_leaf h1 (by omega) h3, vl_leaf h1 (by omega) h3]
    exact hc i h3 hne
  · intro i j h1 h2 h3 _ _ i1 hf x
    rw [fl_lst h1 h2 h3, fst9_1] at hf
    rw [vl_lst h1 h2 h3, vl_lst h1 h2 h3]
    exact i1 hf.1 (w i)
  · intro i j h1 h2 _ i1 hf x
    rw [fl_l1 h1 h2] at hf
    rw [vl_l1 h1 h2, vl_l1 h1 h2]
    exact i1 hf 0
  · intro i m j h1 h2 h3 h4 h5 _ _ i1 i2 hf x
    rw [fl_ln h1 h4 h2, fst9_1] at hf
    rw [vl_ln h1 h4 h2, vl_ln h1 h4 h2, i1 hf.1 x, i2 hf.2 0]
theorem vl_cg0 {i j : Nat} (hc : ∀ k, (w k = 1 ∨ w k = 2 ∨ w k = 12 ∨ w k = 13) → (w k = 1 → E k ≠ -1) → cv k = cv' k) (he : Eo w 6 i j) (hf : (fl w E pl 0 i j).1 = 0) : vlq w cv pl 0 0 i j = vlq w cv' pl 0 0 i j := vl_cg hc _ 0 i j (Nat.le_refl _) (Or.inl ⟨rfl, he⟩) hf 0
end VCG
end
section
/-! A rule's value depends on the values of its own words alone. -/
section VCI
variable {w pl : Nat → Int} {cv cv' : Nat → vrs}
theorem vl_ci : ∀ (n c i j : Nat), 2 * (j - i) + c ≤ n → Eoc w c i j → (∀ k, i ≤ k → k < j → cv k = cv' k) → ∀ x, vlq w cv pl c x i j = vlq w cv' pl c x i j := by
  refine Eo_ind (P := fun c i j => (∀ k, i ≤ k → k < j → cv k = cv' k) → ∀ x, vlq w cv pl c x i j = vlq w cv' pl c x i j) ?_ ?_ ?_ ?_ ?_ ?_ ?_ ?_
  · intro i m q j h1 h2 h3 h4 h5 h6 h7 h8 _ _ _ i1 i2 i3 hc x
    rw [vl_ask h1 h2 h3 h6 h8, vl_ask h1 h2 h3 h6 h8, i1 (fun k a b => hc k a (by omega)) 0, i2 (fun k a b => hc k (by omega) (by omega)) 0, i3 (fun k a b => hc k (by omega) b) 0]
  · intro i m j h1 h2 h3 h4 _ _ i1 i2 hc x
    have i1 := i1 (fun k a b => hc k a (by omega))
    have i2 := i2 (fun k a b => hc k (by omega) b)
    by_cases c1 : w m = 29
    · rw [vl_and h1 h2 h3 c1, vl_and h1 h2 h3 c1, i1 0, i2 0]
    by_cases c2 : w m = 30
    · rw [vl_or h1 h2 h3 c2, vl_or h1 h2 h3 c2, i1 0, i2 0]
    · rw [vl_bin h1 h2 h3 (by omega) c1 c2, vl_bin h1 h2 h3 (by omega) c1 c2, i1 0, i2 0]
  · intro i j h1 h2 h3 _ _ i1 hc x
    rw [vl_par h1 h2 h3, vl_par h1 h2 h3]
    exact i1 (fun k a b => hc k (by omega) (by omega)) 0
  · intro i j h1 h2 h3 _ i1 hc x
    have i1 := i1 (fun k a b => hc k (by omega) b)
    rcases h3 with h3 | h3
    · rw [vl_neg h1 h2 h3, vl_neg h1 h2 h3, i1 0]
    · rw [vl_not h1 h2 h3, vl_not h1 h2 h3, i1 0]
  · intro i h1 h3 hc x
    rw [vl_leaf h1 (by omega) h3, vl_leaf h1 (by omega) h3]
    exact hc i (Nat.le_refl _) (by omega)
  · intro i j h1 h2 h3 _ _ i1 hc x
    rw [vl_lst h1 h2 h3, vl_lst h1 h2 h3]
    exact i1 (fun k a b => hc k (by omega) (by omega)) (w i)
  · intro i j h1 h2 _ i1 hc x
    rw [vl_l1 h1 h2, vl_l1 h1 h2]
    exact i1 hc 0
  · intro i m j h1 h2 h3 h4 h5 _ _ i1 i2 hc x
    rw [vl_ln h1 h4 h2, vl_ln h1 h4 h2, i1 (fun k a b => hc k a (by omega)) x, i2 (fun k a b => hc k (by omega) b) 0]
theorem vl_ci0 {i j : Nat} (hc : ∀ k, i ≤ k → k < j → cv k = cv' k) (he : Eo w 6 i j) : vlq w cv pl 0 0 i j = vlq w cv' pl 0 0 i j := vl_ci _ 0 i j (Nat.le_refl _) (Or.inl ⟨rfl, he⟩) hc 0
end VCI
end
end
section
section
/-! What the words of a text are worth in a state: pure. -/
section EXQ
variable (w pl nq : Nat → Int) (sm : Nat → Nat → Prop) (N : Nat) (sg : Nat → Int)
/-- how many vars there are -/
def vcn : List nm9 → Nat
  | [] => 0
  | e :: r => vcn r + (if e.2.1 = 3 then 1 else 0)
/-- how many consts and formulas -/
def rcn : List nm9 → Nat
  | [] => 0
  | e :: r => rcn r + (if e.2.1 = 3 then 0 else 1)
end EXQ
section EXR
variable {w pl nq : Nat → Int} {sm : Nat → Nat → Prop} {N : Nat} {sg : Nat → Int}
theorem vcn_app (l r : List nm9) : vcn (l ++ r) = vcn l + vcn r := by
  induction l with
  | nil => show vcn r = 0 + vcn r; omega
  | cons e l ih =>
    show vcn (l ++ r) + _ = vcn l + _ + vcn r
    rw [ih]
    omega
theorem rcn_app (l r : List nm9) : rcn (l ++ r) = rcn l + rcn r := by
  induction l with
  | nil => show rcn r = 0 + rcn r; omega
  | cons e l ih =>
    show rcn (l ++ r) + _ = rcn l + _ + rcn r
    rw [ih]
    omega
end EXR
end
section
/-! The exploration: pure. ev tells what a rule is worth in a state, stp what sets make of a state. -/
/-- a branch: its place, its chance's words, its sets -/
abbrev br9 : Type := Int × (Nat × Nat) × List (Nat × Nat × Nat × Nat)
/-- a command: its player (1 max, 2 min), its place, its guard's words, its branches -/
abbrev cm9 : Type := Int × Int × (Nat × Nat) × List br9
/-- a command of a state: which one of the text, the multiple, goals and shares -/
abbrev sc9 : Type := Nat × Int × List (Nat × Int)
section EXS
variable (ev : List Int → Nat → Nat → vrs) (stp : List Int → List (Nat × Nat × Nat × Nat) → (Int × Int) × List Int)
/-- the chances of a command: the first fault, or their values -/
def chq9 (sg : List Int) : List br9 → (Int × Int) × List (Int × Int)
  | [] => ((0, 0), [])
  | b :: r => if (ev sg b.2.1.1 b.2.1.2).1 ≠ 0 then (((ev sg b.2.1.1 b.2.1.2).1, (ev sg b.2.1.1 b.2.1.2).2.1), []) else if (ev sg b.2.1.1 b.2.1.2).2.1 < 0 ∨ (ev sg b.2.1.1 b.2.1.2).2.2 < (ev sg b.2.1.1 b.2.1.2).2.1 then ((11, b.1), []) else ((chq9 sg r).1, (ev sg b.2.1.1 b.2.1.2).2 :: (chq9 sg r).2)
/-- the multiple of all that stands below; 0 if it is too large -/
def muq9 : List (Int × Int) → Int → Int
  | [], m => m
  | c :: r, m => if 1000000000 ≤ m / (Int.gcd m c.2 : Int) * c.2 then 0 else muq9 r (m / (Int.gcd m c.2 : Int) * c.2)
/-- all shares together -/
def smq9 (m : Int) : List (Int × Int) → Int
  | [] => 0
  | c :: r => m / c.2 * c.1 + smq9 m r
/-- a state, known or new; none: there is no room -/
def enq9 (S : List (List Int)) (x : List Int) : Option (Nat × List (List Int)) := match S.findIdx? (fun y => y == x) with
  | some k => some (k, S)
  | none => if S.length = 512 then none else some (S.length, S ++ [x])
/-- a branch joins one with the same goal; none: there is none -/
def jnq9 (to : Nat) (wt : Int) : List (Nat × Int) → Option (List (Nat × Int))
  | [] => none
  | g :: r => if g.1 = to then some ((g.1, g.2 + wt) :: r) else (jnq9 to wt r).map (fun l => g :: l)
/-- the branches of a command are followed: the first fault, the states, goals and shares; pc its place, nb the branches before it -/
def flq9 (sg : List Int) (pc m : Int) (nb : Nat) : List (br9 × (Int × Int)) → List (List Int) → List (Nat × Int) → (Int × Int) × List (List Int) × List (Nat × Int)
  | [], S, B => ((0, 0), S, B)
  | x :: r, S, B => if x.2.1 = 0 then flq9 sg pc m nb r S B else if (stp sg x.1.2.2).1.1 ≠ 0 then ((stp sg x.1.2.2).1, S, B) else match enq9 S (stp sg x.1.2.2).2 with
    | none => ((5, x.1.1), S, B)
    | some q => match jnq9 q.1 (m / x.2.2 * x.2.1) B with
      | some B' => flq9 sg pc m nb r q.2 B'
      | none => if nb + B.length = 4096 then ((5, pc), q.2, B) else flq9 sg pc m nb r q.2 (B ++ [(q.1, m / x.2.2 * x.2.1)])
/-- while a state is looked at: the first fault, the states, its kind, its commands -/
abbrev sl9 : Type := (Int × Int) × List (List Int) × Int × List sc9
/-- how many branches -/
def nbq9 : List sc9 → Nat
  | [] => 0
  | c :: r => c.2.2.length + nbq9 r
/-- command c of the text; nb branches of the states before -/
def tcq9 (sg : List Int) (nb c : Nat) (cm : cm9) (s : sl9) : sl9 :=
  if (ev sg cm.2.2.1.1 cm.2.2.1.2).1 ≠ 0 then (((ev sg cm.2.2.1.1 cm.2.2.1.2).1, (ev sg cm.2.2.1.1 cm.2.2.1.2).2.1), s.2)
  else if (ev sg cm.2.2.1.1 cm.2.2.1.2).2.1 = 0 then s
  else if s.2.2.1 ≠ 0 ∧ s.2.2.1 ≠ cm.1 then ((13, cm.2.1), s.2)
  else if (chq9 ev sg cm.2.2.2).1.1 ≠ 0 then ((chq9 ev sg cm.2.2.2).1, s.2)
  else if muq9 (chq9 ev sg cm.2.2.2).2 1 = 0 then ((6, cm.2.1), s.2)
  else if smq9 (muq9 (chq9 ev sg cm.2.2.2).2 1) (chq9 ev sg cm.2.2.2).2 ≠ muq9 (chq9 ev sg cm.2.2.2).2 1 then ((11, cm.2.1), s.2)
  else ((flq9 stp sg cm.2.1 (muq9 (chq9 ev sg cm.2.2.2).2 1) (nb + nbq9 s.2.2.2) (cm.2.2.2.zip (chq9 ev sg cm.2.2.2).2) s.2.1 []).1, (flq9 stp sg cm.2.1 (muq9 (chq9 ev sg cm.2.2.2).2 1) (nb + nbq9 s.2.2.2) (cm.2.2.2.zip (chq9 ev sg cm.2.2.2).2) s.2.1 []).2.1, cm.1, s.2.2.2 ++ [(c, muq9 (chq9 ev sg cm.2.2.2).2 1, (flq9 stp sg cm.2.1 (muq9 (chq9 ev sg cm.2.2.2).2 1) (nb + nbq9 s.2.2.2) (cm.2.2.2.zip (chq9 ev sg cm.2.2.2).2) s.2.1 []).2.2)])
/-- all commands from the c-th on, up to a fault -/
def tsq9 (sg : List Int) (nb : Nat) : List cm9 → Nat → sl9 → sl9
  | [], _, s => s
  | cm :: r, c, s => if s.1.1 ≠ 0 then s else tsq9 sg nb r (c + 1) (tcq9 ev stp sg nb c cm s)
/-- a state -/
def ssq9 (tg : Nat × Nat) (cms : List cm9) (sg : List Int) (nb : Nat) (S : List (List Int)) : sl9 :=
  if (ev sg tg.1 tg.2).1 ≠ 0 then (((ev sg tg.1 tg.2).1, (ev sg tg.1 tg.2).2.1), S, 0, []) else if (ev sg tg.1 tg.2).2.1 ≠ 0 then ((0, 0), S, 3, []) else tsq9 ev stp sg nb cms 0 ((0, 0), S, 0, [])
/-- what has been explored: kinds and commands, state by state -/
abbrev xt9 : Type := List (Int × List sc9)
def nbx9 : xt9 → Nat
  | [] => 0
  | x :: r => nbq9 x.2 + nbx9 r
/-- from state k on: the fault and its state, the states, kinds and commands -/
def exq9 (tg : Nat × Nat) (cms : List cm9) : Nat → Nat → List (List Int) → xt9 → (Int × Int) × Nat × List (List Int) × xt9
  | 0, k, S, T => ((0, 0), k, S, T)
  | f + 1, k, S, T => match S[k]? with
    | none => ((0, 0), k, S, T)
    | some sg => if (ssq9 ev stp tg cms sg (nbx9 T) S).1.1 ≠ 0 then ((ssq9 ev stp tg cms sg (nbx9 T) S).1, k, [], []) else exq9 tg cms f (k + 1) (ssq9 ev stp tg cms sg (nbx9 T) S).2.1 (T ++ [((ssq9 ev stp tg cms sg (nbx9 T) S).2.2.1, (ssq9 ev stp tg cms sg (nbx9 T) S).2.2.2)])
/-- the whole exploration from the first state on -/
def xpl9 (tg : Nat × Nat) (cms : List cm9) (s0 : List Int) : (Int × Int) × Nat × List (List Int) × xt9 := exq9 ev stp tg cms 513 0 [s0] []
end EXS
end
end
section
section
/-! What a text's items make of the game: pure. -/
/-- the vars' ranges and inits; the target's rule; the commands -/
abbrev gm9 : Type := List (Int × Int × Int) × Option (Nat × Nat) × List cm9
/-- the words of a text, how many, its names, its game -/
abbrev gW9 : Type := (Nat → Int) × (Nat → Int) × (Nat → Int) × (Nat → Nat → Prop) × Nat × List nm9 × gm9
section GMP
variable (w pl nq : Nat → Int) (sm : Nat → Nat → Prop) (N : Nat)
/-- which var the word k names -/
noncomputable def vix9 (nms : List nm9) (k : Nat) : Nat := vcn (nms.takeWhile (fun e => !@decide (sm e.1 k) (Classical.propDecidable _)))
/-- the sets of a branch, from k on -/
noncomputable def sel9 (nms : List nm9) : Nat → Nat → List (Nat × Nat × Nat × Nat)
  | 0, _ => []
  | f + 1, k => (vix9 sm nms (k + 1), k + 4, cpq w (k + 4) N, k) :: (if w (cpq w (k + 4) N + 1) = 29 then sel9 nms f (cpq w (k + 4) N + 2) else [])
/-- the branches of a command, from the word i on; the item ends at e -/
noncomputable def brs9 (nms : List nm9) (e : Nat) : Nat → Nat → List br9
  | 0, _ => []
  | f + 1, i => if e ≤ i then [] else if w (clq w (i - 1) N + 1) = 10 then (pl i, (i, clq w (i - 1) N), []) :: brs9 nms e f (clq w (i - 1) N + 3)
    else (pl i, (i, clq w (i - 1) N), sel9 w sm N nms N (clq w (i - 1) N + 1)) :: brs9 nms e f ((sef w pl sm N nms N (clq w (i - 1) N + 1) []).2 + 1)
/-- a command -/
noncomputable def cmd9 (nms : List nm9) (k e : Nat) : cm9 := ((if w k = 7 then 1 else 2), pl k, (k + 1, nxq w 17 N (k + 1)), brs9 w pl sm N nms e N (nxq w 17 N (k + 1) + 1))
/-- a var's range and init -/
noncomputable def var9 (nms : List nm9) (k e : Nat) : Int × Int × Int :=
  let rg := nxq w 16 N (k + 3)
  let ini := if w (k + 3) = 5 then k + 4 else nxq w 9 (e - (k + 3)) (k + 3)
  let lo : Int := if w (k + 3) = 5 then 0 else (vlq w (cv9 w nq sm nms) pl 0 0 (k + 3) rg).2.1
  let hi : Int := if w (k + 3) = 5 then 1 else (vlq w (cv9 w nq sm nms) pl 0 0 (rg + 1) ini).2.1
  (lo, hi, if w ini = 9 then (vlq w (cv9 w nq sm nms) pl 0 0 (ini + 1) e).2.1 else lo)
/-- the item at k; nms the names before it -/
noncomputable def igm9 (nms : List nm9) (k : Nat) (g : gm9) : gm9 :=
  if w k = 3 ∨ w k = 6 then g else if w k = 4 then (g.1 ++ [var9 w pl nq sm N nms k (nxq w 34 N k)], g.2) else if w k = 11 then (g.1, some (k + 1, nxq w 34 N k), g.2.2) else (g.1, g.2.1, g.2.2 ++ [cmd9 w pl sm N nms k (nxq w 34 N k)])
/-- all items from k on -/
noncomputable def igs9 (mc : Nat) : Nat → Nat → st9 → gm9 → gm9
  | 0, _, _, g => g
  | f + 1, k, s, g => if s.2.2.1 ≠ 0 then g else if w k = 0 then g else igs9 mc f (nxq w 34 N k + 1) (ite9 w pl nq sm N mc k s) (if (ite9 w pl nq sm N mc k s).2.2.1 ≠ 0 then g else igm9 w pl nq sm N s.1 k g)
end GMP
end
section
/-! What the words of a text are worth in a state, by the first name that is spelt so: pure. -/
section NMA
variable (w pl nq : Nat → Int) (sm : Nat → Nat → Prop) (N : Nat) (sg : Nat → Int)
/-- what a word is worth in the state sg; the names, latest first -/
noncomputable def cvs : List nm9 → Nat → vrs
  | [], k => if w k = 2 then (0, nq k, 1) else if w k = 12 then (0, 1, 1) else (0, 0, 1)
  | e :: r, k => haveI := Classical.propDecidable (w k = 1 ∧ sm e.1 k ∧ ∀ e', e' ∈ r → ¬ sm e'.1 k)
    if w k = 1 ∧ sm e.1 k ∧ ∀ e', e' ∈ r → ¬ sm e'.1 k then (if e.2.1 = 1 then e.2.2.2 else if e.2.1 = 3 then (0, sg (vcn r), 1) else vlq w (cvs r) pl 0 0 (e.1 + 2) (nxq w 34 N e.1)) else cvs r k
/-- what a name is worth; r the names before it, latest first -/
noncomputable def nvs (e : nm9) (r : List nm9) : vrs := if e.2.1 = 1 then e.2.2.2 else if e.2.1 = 3 then (0, sg (vcn r), 1) else vlq w (cvs w pl nq sm N sg r) pl 0 0 (e.1 + 2) (nxq w 34 N e.1)
/-- what const or formula number x is worth -/
noncomputable def fvs : List nm9 → Nat → vrs
  | [], _ => (0, 0, 1)
  | e :: r, x => if e.2.1 ≠ 3 ∧ rcn r = x then nvs w pl nq sm N sg e r else fvs r x
/-- the words of the text alone -/
noncomputable def cvb (n : Nat) (r : List nm9) (k : Nat) : vrs := if k < n then cvs w pl nq sm N sg r k else (0, 0, 1)
/-- the names of a text, oldest first -/
def NmO (n : Nat) (nms : List nm9) : Prop := ∀ l1 e l2, nms = l1 ++ e :: l2 → (1 ≤ e.2.1 ∧ e.2.1 ≤ 3) ∧ (e.2.2.1 = 0 ∨ e.2.2.1 = 1) ∧ (e.2.1 = 1 → vgd e.2.2.1 e.2.2.2) ∧ (e.2.1 = 2 → Eo w 6 (e.1 + 2) (nxq w 34 N e.1) ∧ nxq w 34 N e.1 ≤ n ∧ (fl w (E9 sm l1 0) pl 0 (e.1 + 2) (nxq w 34 N e.1)).1 = 0 ∧ e.2.2.1 = kdq w (E9 sm l1 0) 0 (e.1 + 2) (nxq w 34 N e.1))
/-- a state has sound values -/
def SgO (nms : List nm9) : Prop := ∀ l1 e l2, nms = l1 ++ e :: l2 → e.2.1 = 3 → (sg (vcn l1)).natAbs ≤ 999999999 ∧ (e.2.2.1 = 1 → sg (vcn l1) = 0 ∨ sg (vcn l1) = 1)
end NMA
section NMB
variable {w pl nq : Nat → Int} {sm : Nat → Nat → Prop} {N n : Nat} {sg : Nat → Int} {nms : List nm9}
theorem cvs_at {e : nm9} {r : List nm9} {k : Nat} (h1 : w k = 1) (h2 : sm e.1 k) (h3 : ∀ e', e' ∈ r → ¬ sm e'.1 k) : ∀ l : List nm9, cvs w pl nq sm N sg (l ++ e :: r) k = nvs w pl nq sm N sg e r
  | [] => by
    show cvs w pl nq sm N sg (e :: r) k = _
    rw [cvs, if_pos ⟨h1, h2, h3⟩]
    rfl
  | e' :: l => by
    show cvs w pl nq sm N sg (e' :: (l ++ e :: r)) k = _
    rw [cvs, if_neg (fun u => u.2.2 e (List.mem_append_right _ List.mem_cons_self) h2)]
    exact cvs_at h1 h2 h3 l
theorem cvs_no {k : Nat} (h : w k ≠ 1) : ∀ l : List nm9, cvs w pl nq sm N sg l k = if w k = 2 then (0, nq k, 1) else if w k = 12 then (0, 1, 1) else (0, 0, 1)
  | [] => rfl
  | e :: r => by rw [cvs, if_neg (fun u => h u.1), cvs_no h r]
theorem vcn_rev (l : List nm9) : vcn l.reverse = vcn l := by
  induction l with
  | nil => rfl
  | cons e l ih =>
    rw [List.reverse_cons, vcn_app, ih]
    show vcn l + (0 + _) = vcn l + _
    omega
theorem rcn_rev (l : List nm9) : rcn l.reverse = rcn l := by
  induction l with
  | nil => rfl
  | cons e l ih =>
    rw [List.reverse_cons, rcn_app, ih]
    show rcn l + (0 + _) = rcn l + _
    omega
theorem fvs_at {e : nm9} {r : List nm9} (h3 : e.2.1 ≠ 3) : ∀ l : List nm9, fvs w pl nq sm N sg (l ++ e :: r) (rcn r) = nvs w pl nq sm N sg e r
  | [] => by
    show fvs w pl nq sm N sg (e :: r) (rcn r) = _
    rw [fvs, if_pos ⟨h3, rfl⟩]
  | e' :: l => by
    show fvs w pl nq sm N sg (e' :: (l ++ e :: r)) (rcn r) = _
    rw [fvs, if_neg (fun u => ?_)]
    · exact fvs_at h3 l
    · have u := u.2
      rw [rcn_app] at u
      have e9 : rcn (e :: r) = rcn r + 1 := by
        show rcn r + (if e.2.1 = 3 then 0 else 1) = _
        rw [if_neg h3]
      omega
theorem fnd_sp {l : List nm9} {k : Nat} {e : nm9} (h : fnd9 sm l k = some e) : ∃ l1 l2, l = l1 ++ e :: l2 ∧ sm e.1 k ∧ ∀ e', e' ∈ l1 → ¬ sm e'.1 k := by
  unfold fnd9 at h
  rw [List.find?_eq_some_iff_append] at h
  obtain ⟨h1, l1, l2, h2, h3⟩ := h
  refine ⟨l1, l2, h2, by simpa using h1, fun e' he => ?_⟩
  have := h3 e' he
  simpa using this
theorem E9_sp {l : List nm9} {k : Nat} (h : E9 sm l 0 k ≠ -1) : ∃ l1 e l2, l = l1 ++ e :: l2 ∧ sm e.1 k ∧ (∀ e', e' ∈ l1 → ¬ sm e'.1 k) ∧ E9 sm l 0 k = e.2.2.1 := by
  unfold E9 at h ⊢
  generalize hf : fnd9 sm l k = o at h ⊢
  cases o with
  | none => exact absurd rfl h
  | some e =>
    obtain ⟨l1, l2, q1, q2, q3⟩ := fnd_sp hf
    refine ⟨l1, e, l2, q1, q2, q3, ?_⟩
    show (if (0 : Int) = 1 ∧ e.2.1 ≠ 1 then (-1 : Int) else e.2.2.1) = e.2.2.1
    rw [if_neg (fun u => absurd u.1 (by decide))]
/-- a name among the older ones -/
theorem cvs_old {r l : List nm9} {k : Nat} (h1 : w k = 1) {l1 l2 : List nm9} {e : nm9} (hr : r = l1 ++ e :: l2) (h2 : sm e.1 k) (h3 : ∀ e', e' ∈ l1 → ¬ sm e'.1 k) : cvs w pl nq sm N sg (r ++ l).reverse k = nvs w pl nq sm N sg e l1.reverse := by
  have e9 : (r ++ l).reverse = (l2 ++ l).reverse ++ e :: l1.reverse := by
    rw [hr]
    simp
  rw [e9]
  exact cvs_at h1 h2 (fun e' he => h3 e' (List.mem_reverse.mp he)) _
theorem cvs_pre {r l : List nm9} {k : Nat} (h : w k = 1 → E9 sm r 0 k ≠ -1) : cvs w pl nq sm N sg (r ++ l).reverse k = cvs w pl nq sm N sg r.reverse k := by
  by_cases y : w k = 1
  · obtain ⟨l1, e, l2, q1, q2, q3, -⟩ := E9_sp (h y)
    have a := cvs_old (pl := pl) (nq := nq) (N := N) (sg := sg) (l := l) y q1 q2 q3
    have b := cvs_old (pl := pl) (nq := nq) (N := N) (sg := sg) (l := []) y q1 q2 q3
    rw [List.append_nil] at b
    rw [a, b]
  · rw [cvs_no y, cvs_no y]
theorem rcn_sp : ∀ (l : List nm9) (x : Nat), x < rcn l → ∃ l1 e l2, l = l1 ++ e :: l2 ∧ e.2.1 ≠ 3 ∧ rcn l1 = x
  | [], x, h => absurd h (Nat.not_lt_zero _)
  | e :: l, x, h => by
    have e9 : rcn (e :: l) = rcn l + (if e.2.1 = 3 then 0 else 1) := rfl
    by_cases u : e.2.1 = 3
    · rw [e9, if_pos u] at h
      obtain ⟨l1, e', l2, q1, q2, q3⟩ := rcn_sp l x h
      refine ⟨e :: l1, e', l2, by rw [q1]; rfl, q2, ?_⟩
      show rcn l1 + (if e.2.1 = 3 then 0 else 1) = x
      rw [if_pos u]
      exact q3
    · rw [e9, if_neg u] at h
      by_cases y : x = 0
      · exact ⟨[], e, l, rfl, u, y.symm⟩
      · obtain ⟨l1, e', l2, q1, q2, q3⟩ := rcn_sp l (x - 1) (by omega)
        refine ⟨e :: l1, e', l2, by rw [q1]; rfl, q2, ?_⟩
        show rcn l1 + (if e.2.1 = 3 then 0 else 1) = x
        rw [if_neg u]
        omega
/-- numbers are small -/
def NqO (w nq : Nat → Int) (n : Nat) : Prop := ∀ k, k < n → w k = 2 → (nq k).natAbs ≤ 999999999
theorem vgd_w {x : Int} (h : x.natAbs ≤ 999999999) : vgd 0 (0, x, 1) := Or.inl ⟨rfl, h, ⟨Int.le_refl 1, show (1 : Int) ≤ 999999999 by decide⟩, Int.gcd_one, fun u => absurd u (by decide)⟩
/-- the words' values are sound, if the names' are -/
theorem cvb_ok {r : List nm9} (hq : NqO w nq n) (hv : ∀ l1 e l2, r = l1 ++ e :: l2 → (e.2.2.1 = 0 ∨ e.2.2.1 = 1) ∧ vgd e.2.2.1 (nvs w pl nq sm N sg e l1.reverse)) : ∀ k, (w k = 1 ∨ w k = 2 ∨ w k = 12 ∨ w k = 13) → (w k = 1 → E9 sm r 0 k ≠ -1) → vgd (if w k = 12 ∨ w k = 13 ∨ (w k = 1 ∧ E9 sm r 0 k = 1) then 1 else 0) (cvb w pl nq sm N sg n r.reverse k) := by
  intro k hk hne
  unfold cvb
  by_cases kn : k < n
  · rw [if_pos kn]
    by_cases h1 : w k = 1
    · obtain ⟨l1, e, l2, q1, q2, q3, q4⟩ := E9_sp (hne h1)
      have b := cvs_old (pl := pl) (nq := nq) (N := N) (sg := sg) (l := []) h1 q1 q2 q3
      rw [List.append_nil] at b
      obtain ⟨g1, g2⟩ := hv l1 e l2 q1
      rw [b, q4]
      by_cases y : e.2.2.1 = 1
      · rw [if_pos (Or.inr (Or.inr ⟨h1, y⟩))]
        rw [y] at g2
        exact g2
      · rw [if_neg (by omega)]
        have : e.2.2.1 = 0 := by omega
        rw [this] at g2
        exact g2
    · rw [cvs_no h1]
      by_cases h2 : w k = 2
      · rw [if_pos h2, if_neg (by omega)]
        exact vgd_w (hq k kn h2)
      · rw [if_neg h2]
        by_cases h3 : w k = 12
        · rw [if_pos h3, if_pos (Or.inl h3)]
          exact vgd_01.1
        · rw [if_neg h3, if_pos (Or.inr (Or.inl (by omega)))]
          exact vgd_01.2
  · rw [if_neg kn]
    exact vgd_01.2
theorem cvb_vl {r : List nm9} {i j : Nat} (he : Eo w 6 i j) (hj : j ≤ n) : vlq w (cvb w pl nq sm N sg n r) pl 0 0 i j = vlq w (cvs w pl nq sm N sg r) pl 0 0 i j := vl_ci0 (fun k _ h => if_pos (by omega)) he
theorem nvs_ok (hq : NqO w nq n) (hn : NmO w pl sm N n nms) (hs : SgO sg nms) : ∀ (f : Nat) (l1 : List nm9) (e : nm9) (l2 : List nm9), l1.length ≤ f → nms = l1 ++ e :: l2 → (e.2.2.1 = 0 ∨ e.2.2.1 = 1) ∧ vgd e.2.2.1 (nvs w pl nq sm N sg e l1.reverse) := by
  intro f
  induction f with
  | zero =>
    intro l1 e l2 hl he
    have l0 : l1 = [] := List.length_eq_zero_iff.mp (by omega)
    subst l0
    obtain ⟨h0, h1, h2, h3⟩ := hn [] e l2 he
    refine ⟨h1, ?_⟩
    unfold nvs
    by_cases y1 : e.2.1 = 1
    · rw [if_pos y1]; exact h2 y1
    rw [if_neg y1]
    by_cases y3 : e.2.1 = 3
    · rw [if_pos y3]
      obtain ⟨s1, s2⟩ := hs [] e l2 he y3
      rw [vcn_rev]
      exact Or.inl ⟨rfl, s1, ⟨Int.le_refl 1, show (1 : Int) ≤ 999999999 by decide⟩, Int.gcd_one, fun u => ⟨s2 u, rfl⟩⟩
    rw [if_neg y3]
    obtain ⟨t1, t2, t3, t4⟩ := h3 (by omega)
    rw [← cvb_vl t1 t2, t4]
    exact vl_ok (cvb_ok (r := []) hq (fun a e' b u => absurd u (by simp))) _ 0 _ _ (Nat.le_refl _) (Or.inl ⟨rfl, t1⟩) t3 (fun u => absurd u (by decide)) 0
  | succ f ih =>
    intro l1 e l2 hl he
    obtain ⟨h0, h1, h2, h3⟩ := hn l1 e l2 he
    refine ⟨h1, ?_⟩
    unfold nvs
    by_cases y1 : e.2.1 = 1
    · rw [if_pos y1]; exact h2 y1
    rw [if_neg y1]
    by_cases y3 : e.2.1 = 3
    · rw [if_pos y3]
      obtain ⟨s1, s2⟩ := hs l1 e l2 he y3
      rw [vcn_rev]
      exact Or.inl ⟨rfl, s1, ⟨Int.le_refl 1, show (1 : Int) ≤ 999999999 by decide⟩, Int.gcd_one, fun u => ⟨s2 u, rfl⟩⟩
    rw [if_neg y3]
    obtain ⟨t1, t2, t3, t4⟩ := h3 (by omega)
    rw [← cvb_vl t1 t2, t4]
    exact vl_ok (cvb_ok (r := l1) hq (fun a e' b u => ih a e' (b ++ e :: l2) (by rw [u, List.length_append, List.length_cons] at hl; omega) (by rw [he, u]; simp))) _ 0 _ _ (Nat.le_refl _) (Or.inl ⟨rfl, t1⟩) t3 (fun u => absurd u (by decide)) 0
/-- the value of a rule of the text is sound -/
theorem vls_ok {r l : List nm9} {i j : Nat} (hq : NqO w nq n) (hn : NmO w pl sm N n nms) (hs : SgO sg nms) (hr : nms = r ++ l) (he : Eo w 6 i j) (hj : j ≤ n) (hf : (fl w (E9 sm r 0) pl 0 i j).1 = 0) : vgd (kdq w (E9 sm r 0) 0 i j) (vlq w (cvs w pl nq sm N sg nms.reverse) pl 0 0 i j) := by
  have e9 : vlq w (cvs w pl nq sm N sg nms.reverse) pl 0 0 i j = vlq w (cvb w pl nq sm N sg n r.reverse) pl 0 0 i j := by
    rw [cvb_vl he hj, hr]
    exact vl_cg0 (E := E9 sm r 0) (fun k _ h => cvs_pre h) he hf
  rw [e9]
  exact vl_ok (cvb_ok (r := r) hq (fun a e' b u => nvs_ok hq hn hs _ a e' (b ++ l) (Nat.le_refl _) (by rw [hr, u]; simp))) _ 0 _ _ (Nat.le_refl _) (Or.inl ⟨rfl, he⟩) hf (fun u => absurd u (by decide)) 0
theorem vls_r {r l : List nm9} {i j : Nat} (hr : nms = r ++ l) (he : Eo w 6 i j) (hj : j ≤ n) (hf : (fl w (E9 sm r 0) pl 0 i j).1 = 0) : vlq w (cvb w pl nq sm N sg n r.reverse) pl 0 0 i j = vlq w (cvs w pl nq sm N sg nms.reverse) pl 0 0 i j := by
  rw [cvb_vl he hj, hr]
  exact (vl_cg0 (E := E9 sm r 0) (fun k _ h => cvs_pre h) he hf).symm
end NMB
end
end
section
section
/-! The class's reader of texts, exactly: words and names. -/
section TXA
variable {W pl nq : Nat → Int} {sm : Nat → Nat → Prop} {M M' : mM} {r T A B D n c p : Nat} {nms : List nm9}
/-- the class's words are W at pl, numbers nq, spelt alike sm -/
def WTq (M : mM) (T A B D n : Nat) (W pl nq : Nat → Int) (sm : Nat → Nat → Prop) : Prop := (∀ j, j ≤ n → (0 ≤ W j ∧ W j ≤ 39) ∧ mI M A j = csq (W j) ∧ mI M B j = pl j) ∧ (∀ v, v < n → W v = 2 → mI M D v = nq v ∧ 0 ≤ nq v ∧ nq v ≤ 999999999) ∧ ∀ v x, v < n → x < n → W v = 1 → W x = 1 → (sm x v ↔ swq M T B D v x)
theorem WTq.cg (h : WTq M T A B D n W pl nq sm) (hT : mI M' T = mI M T) (hA : mI M' A = mI M A) (hB : mI M' B = mI M B) (hD : mI M' D = mI M D) : WTq M' T A B D n W pl nq sm := by
  unfold WTq swq at h ⊢
  rw [hT, hA, hB, hD]
  exact h
/-- a name in the class's numbers -/
def srt9 (s : Nat) : Int := if s = 1 then 4 else if s = 2 then 7 else 5
/-- the class's tables are the names nms -/
def CT (M : mM) (r p : Nat) (nms : List nm9) : Prop := mI M r 19 = nms.length ∧ ∀ (i : Nat) (e : nm9), nms[i]? = some e → mI M (r + 6) i = e.1 ∧ mI M (r + 7) i = srt9 e.2.1 ∧ (1 ≤ e.2.1 ∧ e.2.1 ≤ 3) ∧ mI M (r + 9) i = e.2.2.1 ∧ (e.2.1 = 1 → vgd e.2.2.1 e.2.2.2 ∧ ∃ x : Nat, mI M (r + 8) i = x ∧ x < 60 ∧ (1 ≤ mI M (p + 7) x ∧ mI M (p + 7) x < 1000000000) ∧ e.2.2.2 = (0, mI M (p + 6) x, mI M (p + 7) x)) ∧ (e.2.1 = 3 → ∀ (j : Nat) (e' : nm9), nms[j]? = some e' → e'.2.1 = 3 → mI M (r + 8) j = mI M (r + 8) i → j = i) ∧ mI M (r + 8) i = (if e.2.1 = 3 then ((vcn (nms.take i) : Nat) : Int) else ((rcn (nms.take i) : Nat) : Int))
theorem csq_w {x : Int} (h : 0 ≤ x ∧ x ≤ 39) : (csq x = 2 ↔ x = 1) ∧ (csq x = 0 ↔ x = 0) ∧ (∀ y : Int, 1 ≤ y → y ≤ 38 → (csq x = y + 1 ↔ x = y)) := by
  unfold csq
  refine ⟨?_, ?_, fun y y1 y2 => ?_⟩
  · split <;> (try split) <;> omega
  · split <;> (try split) <;> omega
  · split <;> (try split) <;> omega
/-- the first name that is spelt so -/
theorem CT.fnd (ct : CT M r p nms) (wt : WTq M T A B D n W pl nq sm) (hw : ∀ i, i < nms.length → ∃ v : Nat, mI M (r + 6) i = v ∧ v < n ∧ mI M A v = 2) {v : Nat} (hv : v < n) (h1 : W v = 1) : (nmn M r T B D nms.length v ∧ fnd9 sm nms v = none) ∨ ∃ (i : Nat) (e : nm9), fm M r T B D nms.length v i ∧ nms[i]? = some e ∧ fnd9 sm nms v = some e ∧ ∀ (j : Nat) (e' : nm9), j < i → nms[j]? = some e' → ¬ sm e'.1 v := by
  have at9 : ∀ {q : Nat} {e : nm9}, nms[q]? = some e → q < nms.length := fun {q e} z => (List.getElem?_eq_some_iff.mp z).1
  have same : ∀ {q : Nat} {e : nm9}, nms[q]? = some e → ((mI M (r + 6) q).toNat = e.1 ∧ (sm e.1 v ↔ swq M T B D v (mI M (r + 6) q).toNat)) := fun {q e} z => by
    obtain ⟨z1, -⟩ := ct.2 q e z
    obtain ⟨x, x1, x2, x3⟩ := hw q (at9 z)
    have ex : e.1 = x := by omega
    have wx : W e.1 = 1 := by
      rw [ex]
      obtain ⟨y1, y2, -⟩ := wt.1 x (by omega)
      exact (csq_w y1).1.mp (by rw [← y2]; exact x3)
    refine ⟨by rw [z1, Int.toNat_natCast], ?_⟩
    rw [z1, Int.toNat_natCast]
    exact wt.2.2 v e.1 hv (by omega) h1 wx
  by_cases c : ∃ i, i < nms.length ∧ swq M T B D v (mI M (r + 6) i).toNat
  · have fs : ∃ i, fm M r T B D nms.length v i := by
      obtain ⟨i, i1, i2⟩ := c
      have : ∀ (f k : Nat), k + f = i → (∀ j, j < k → ¬ swq M T B D v (mI M (r + 6) j).toNat) → ∃ i, fm M r T B D nms.length v i := by
        intro f
        induction f with
        | zero =>
          intro k hk hj
          have : k = i := by omega
          subst this
          exact ⟨k, i1, i2, hj⟩
        | succ f ih =>
          intro k hk hj
          by_cases c : swq M T B D v (mI M (r + 6) k).toNat
          · exact ⟨k, by omega, c, hj⟩
          · refine ih (k + 1) (by omega) (fun j hj2 => ?_)
            by_cases e : j = k
            · rw [e]; exact c
            · exact hj j (by omega)
      exact this i 0 (by omega) (fun j hj => by omega)
    obtain ⟨i, f1, f2, f3⟩ := fs
    obtain ⟨e, z⟩ : ∃ e, nms[i]? = some e := ⟨nms[i], List.getElem?_eq_getElem f1⟩
    refine Or.inr ⟨i, e, ⟨f1, f2, f3⟩, z, ?_, fun j e' hj zj y => f3 j hj ((same zj).2.mp y)⟩
    unfold fnd9
    rw [List.find?_eq_some_iff_getElem]
    refine ⟨by simp only [decide_eq_true_eq]; exact (same z).2.mpr f2, i, f1, by rw [List.getElem?_eq_getElem f1] at z; exact Option.some.inj z, fun j hj => ?_⟩
    have zj : nms[j]? = some nms[j] := List.getElem?_eq_getElem (by omega)
    have := f3 j hj
    simp only [Bool.not_eq_true', decide_eq_false_iff_not]
    exact fun y => this ((same zj).2.mp y)
  · have no : nmn M r T B D nms.length v := fun j hj y => c ⟨j, hj, y⟩
    refine Or.inl ⟨no, ?_⟩
    unfold fnd9
    rw [List.find?_eq_none]
    intro e he
    obtain ⟨i, z⟩ := List.mem_iff_getElem?.mp he
    simp only [decide_eq_true_eq]
    exact fun y => no i (at9 z) ((same z).2.mp y)
theorem fm_un {i j : Nat} (h : fm M r T B D c p i) (k : fm M r T B D c p j) : i = j := by
  obtain ⟨h1, h2, h3⟩ := h
  obtain ⟨k1, k2, k3⟩ := k
  rcases Nat.lt_trichotomy i j with d | d | d
  · exact absurd h2 (k3 i d)
  · exact d
  · exact absurd k2 (h3 j d)
/-- what reading a rule hangs on: kinds and orders of words -/
theorem uq_ex (wt : WTq M T A B D n W pl nq sm) (hw : ∀ i, i < c → ∃ v : Nat, mI M (r + 6) i = v ∧ v < n ∧ mI M A v = 2) {co : Int} (hco : mI M r 6 = co) : ∃ (E : Nat → Int) (Cf : Nat → Int × Int), (∀ rest, UQ (W, E, pl, Cf, rest) M r T A B D n c) ∧ (∀ v, n ≤ v → Cf v = (3, 0)) ∧ (CT M r p nms → nms.length = c → (E = E9 sm nms (if co = 0 then 0 else 1) ∧ ∀ v, v < n → (W v = 2 → Cf v = (3, nq v)) ∧ (W v = 12 → Cf v = (3, 1)) ∧ (W v = 13 → Cf v = (3, 0)) ∧ (W v = 1 → E v ≠ -1 → ∃ (i : Nat) (e : nm9), nms[i]? = some e ∧ fnd9 sm nms v = some e ∧ (co = 0 ∨ e.2.1 = 1) ∧ Cf v = (mI M (r + 7) i, mI M (r + 8) i) ∧ ∀ (j : Nat) (e' : nm9), j < i → nms[j]? = some e' → ¬ sm e'.1 v))) := by
  classical
  have wq : ∀ E Cf rest, WQ (W, E, pl, Cf, rest) M A B n := fun E Cf rest j hj => wt.1 j hj
  let fi : Nat → Option Nat := fun v => if h : ∃ i, fm M r T B D c v i then some (Classical.choose h) else none
  have fi_n : ∀ v, nmn M r T B D c v → fi v = none := fun v h => dif_neg (fun ⟨i, q⟩ => h i q.1 q.2.1)
  have fi_s : ∀ v i, fm M r T B D c v i → fi v = some i := fun v i h => by
    have h9 : ∃ i, fm M r T B D c v i := ⟨i, h⟩
    show (if h : ∃ i, fm M r T B D c v i then some (Classical.choose h) else none) = some i
    rw [dif_pos h9]
    exact congrArg some (fm_un (Classical.choose_spec h9) h)
  let Cf : Nat → Int × Int := fun v => if n ≤ v then (3, 0) else if W v = 2 then (3, nq v) else if W v = 12 then (3, 1) else if W v = 13 then (3, 0) else match fi v with
    | none => (3, 0)
    | some i => if mI M r 6 ≠ 0 ∧ mI M (r + 7) i ≠ 4 then (3, 0) else (mI M (r + 7) i, mI M (r + 8) i)
  let E0 : Nat → Int := fun v => match fi v with
    | none => -1
    | some i => if mI M r 6 ≠ 0 ∧ mI M (r + 7) i ≠ 4 then -1 else mI M (r + 9) i
  have cf1 : ∀ v, v < n → W v = 1 → Cf v = match fi v with
    | none => (3, 0)
    | some i => if mI M r 6 ≠ 0 ∧ mI M (r + 7) i ≠ 4 then (3, 0) else (mI M (r + 7) i, mI M (r + 8) i) := fun v hv h1 => by
    show (if n ≤ v then _ else _) = _
    rw [if_neg (by omega), if_neg (by omega), if_neg (by omega), if_neg (by omega)]
  have cf2 : ∀ v, v < n → (W v = 2 → Cf v = (3, nq v)) ∧ (W v = 12 → Cf v = (3, 1)) ∧ (W v = 13 → Cf v = (3, 0)) := fun v hv => by
    refine ⟨fun h => ?_, fun h => ?_, fun h => ?_⟩
    · show (if n ≤ v then _ else _) = _
      rw [if_neg (by omega), if_pos h]
    · show (if n ≤ v then _ else _) = _
      rw [if_neg (by omega), if_neg (by omega), if_pos h]
    · show (if n ≤ v then _ else _) = _
      rw [if_neg (by omega), if_neg (by omega), if_neg (by omega), if_pos h]
  have uqE : ∀ E : Nat → Int, (∀ v, v < n → W v = 1 → E v = E0 v) → ∀ rest, UQ (W, E, pl, Cf, rest) M r T A B D n c := fun E hE rest => by
    refine ⟨wq _ _ _, fun v hv => ⟨fun h => ?_, fun h => (cf2 v hv).2.1 h, fun h => (cf2 v hv).2.2 h, fun h => ⟨fun q => ⟨?_, ?_⟩, fun i q => ⟨fun y => ⟨?_, ?_⟩, fun y => ⟨?_, ?_⟩⟩⟩⟩⟩
    · show Cf v = (3, mI M D v)
      rw [(cf2 v hv).1 h, (wt.2.1 v hv h).1]
    · show E v = -1
      rw [hE v hv h]
      show (match fi v with | none => (-1 : Int) | some i => _) = -1
      rw [fi_n v q]
    · show Cf v = (3, 0)
      rw [cf1 v hv h, fi_n v q]
    · show E v = -1
      rw [hE v hv h]
      show (match fi v with | none => (-1 : Int) | some i => if mI M r 6 ≠ 0 ∧ mI M (r + 7) i ≠ 4 then -1 else mI M (r + 9) i) = -1
      rw [fi_s v i q]
      exact if_pos y
    · show Cf v = (3, 0)
      rw [cf1 v hv h, fi_s v i q]
      exact if_pos y
    · show E v = mI M (r + 9) i
      rw [hE v hv h]
      show (match fi v with | none => (-1 : Int) | some i => if mI M r 6 ≠ 0 ∧ mI M (r + 7) i ≠ 4 then -1 else mI M (r + 9) i) = _
      rw [fi_s v i q]
      exact if_neg y
    · show Cf v = (mI M (r + 7) i, mI M (r + 8) i)
      rw [cf1 v hv h, fi_s v i q]
      exact if_neg y
  have big : ∀ v, n ≤ v → Cf v = (3, 0) := fun v hv => if_pos hv
  by_cases hc : CT M r p nms ∧ nms.length = c
  · obtain ⟨ct, hl⟩ := hc
    have srt : ∀ {i : Nat} {e : nm9}, nms[i]? = some e → (mI M (r + 7) i ≠ 4 ↔ e.2.1 ≠ 1) := fun {i e} z => by
      obtain ⟨-, z2, z3, -⟩ := ct.2 i e z
      rw [z2]
      unfold srt9
      split
      · rename_i y; simp [y]
      · rename_i y
        split <;> simp [y]
    have eE : ∀ v, v < n → W v = 1 → E9 sm nms (if co = 0 then 0 else 1) v = E0 v := fun v hv h1 => by
      rcases ct.fnd wt (by rw [hl]; exact hw) hv h1 with ⟨q1, q2⟩ | ⟨i, e, q1, q2, q3, q4⟩
      · rw [hl] at q1
        unfold E9
        rw [q2]
        show (-1 : Int) = match fi v with | none => (-1 : Int) | some i => if mI M r 6 ≠ 0 ∧ mI M (r + 7) i ≠ 4 then -1 else mI M (r + 9) i
        rw [fi_n v q1]
      · rw [hl] at q1
        unfold E9
        rw [q3]
        show (if (if co = 0 then (0 : Int) else 1) = 1 ∧ e.2.1 ≠ 1 then (-1 : Int) else e.2.2.1) = match fi v with | none => (-1 : Int) | some i => if mI M r 6 ≠ 0 ∧ mI M (r + 7) i ≠ 4 then -1 else mI M (r + 9) i
        rw [fi_s v i q1]
        obtain ⟨-, -, -, z4, -⟩ := ct.2 i e q2
        have sr := srt q2
        show _ = if mI M r 6 ≠ 0 ∧ mI M (r + 7) i ≠ 4 then (-1 : Int) else mI M (r + 9) i
        rw [hco, z4]
        by_cases c0 : co = 0
        · rw [if_pos c0, if_neg (fun y => absurd y.1 (by decide)), if_neg (fun y => y.1 c0)]
        · rw [if_neg c0]
          by_cases c1 : e.2.1 ≠ 1
          · rw [if_pos ⟨rfl, c1⟩, if_pos ⟨c0, sr.mpr c1⟩]
          · rw [if_neg (fun y => c1 y.2), if_neg (fun y => c1 (sr.mp y.2))]
    refine ⟨E9 sm nms (if co = 0 then 0 else 1), Cf, uqE _ eE, big, fun _ _ => ⟨rfl, fun v hv => ⟨(cf2 v hv).1, (cf2 v hv).2.1, (cf2 v hv).2.2, fun h1 hne => ?_⟩⟩⟩
    rcases ct.fnd wt (by rw [hl]; exact hw) hv h1 with ⟨q1, q2⟩ | ⟨i, e, q1, q2, q3, q4⟩
    · unfold E9 at hne
      rw [q2] at hne
      exact absurd rfl hne
    · rw [hl] at q1
      unfold E9 at hne
      rw [q3] at hne
      have ne : ¬ ((if co = 0 then (0 : Int) else 1) = 1 ∧ e.2.1 ≠ 1) := fun y => hne (if_pos y)
      have no : ¬ (mI M r 6 ≠ 0 ∧ mI M (r + 7) i ≠ 4) := fun y => ne ⟨by rw [if_neg (by rw [← hco]; exact y.1)], (srt q2).mp y.2⟩
      refine ⟨i, e, q2, q3, ?_, ?_, q4⟩
      · by_cases c0 : co = 0
        · exact Or.inl c0
        · rw [if_neg c0] at ne
          exact Or.inr (Classical.byContradiction (fun y => ne ⟨rfl, y⟩))
      · rw [cf1 v hv h1, fi_s v i q1]
        exact if_neg no
  · refine ⟨E0, Cf, uqE E0 (fun _ _ _ => rfl), big, fun ct hl => absurd ⟨ct, hl⟩ hc⟩
end TXA
end
section
/-! The class's program tells the game: where the orders of its rules lie. -/
/-- the orders of words; r the names that are known -/
def LfC (W nq : Nat → Int) (sm : Nat → Nat → Prop) (n : Nat) (r : List nm9) (ec : Nat → Int × Int) : Prop := (∀ k, n ≤ k → ec k = (3, 0)) ∧ ∀ k, k < n → (W k = 2 → ec k = (3, nq k)) ∧ (W k = 12 → ec k = (3, 1)) ∧ (W k = 13 → ec k = (3, 0)) ∧ (W k = 1 → ∀ l1 e l2, r = l1 ++ e :: l2 → sm e.1 k → (∀ e', e' ∈ l1 → ¬ sm e'.1 k) → ec k = (srt9 e.2.1, if e.2.1 = 3 then ((vcn l1 : Nat) : Int) else ((rcn l1 : Nat) : Int)))
/-- a rule's orders begin at s -/
def RuC (M : mM) (O P L : Nat) (W pl nq : Nat → Int) (sm : Nat → Nat → Prop) (n : Nat) (ns : Nat → Int) (ef : Nat → Nat) (nms : List nm9) (i j s : Nat) : Prop := ∃ (r l : List nm9) (ec : Nat → Int × Int) (e : Nat), nms = r ++ l ∧ Eo W 6 i j ∧ j ≤ n ∧ (fl W (E9 sm r 0) pl 0 i j).1 = 0 ∧ LfC W nq sm n r ec ∧ (∀ x, x < rcn r → ns x = 7 → ef x < s) ∧ Cd W ec pl (mI M O) (mI M P) 0 0 0 i j s e ∧ e < L ∧ mI M O e = 0
/-- the orders of sets: the var, its rule from i to j, the word whose place a fault tells; Φ what the words' orders are -/
def Scw (Φ : (Nat → Int × Int) → Prop) (w pl : Nat → Int) (O P : Nat → Int) : List (Nat × Nat × Nat × Nat) → Nat → Nat → Prop
  | [], s, e => s = e
  | q :: r, s, e => ∃ (a : Nat) (ec : Nat → Int × Int), Φ ec ∧ Cd w ec pl O P 0 0 0 q.2.1 q.2.2.1 s a ∧ O a = 43 ∧ P a = pl q.2.2.2 * 16 + (q.1 : Int) ∧ Scw Φ w pl O P r (a + 1) e
theorem Scw.le {Φ : (Nat → Int × Int) → Prop} {w pl O P : Nat → Int} : ∀ (l : List (Nat × Nat × Nat × Nat)) {s e : Nat}, Scw Φ w pl O P l s e → s ≤ e
  | [], _, _, h => Nat.le_of_eq h
  | q :: r, s, e, h => by
    obtain ⟨a, ec, -, c1, -, -, c2⟩ := h
    have l1 := c1.lt
    have l2 := Scw.le r c2
    omega
theorem Scw.cg {Φ : (Nat → Int × Int) → Prop} {w pl A B A' B' : Nat → Int} : ∀ (l : List (Nat × Nat × Nat × Nat)) {s e : Nat}, Scw Φ w pl A B l s e → (∀ t, s ≤ t → t < e → A' t = A t ∧ B' t = B t) → Scw Φ w pl A' B' l s e
  | [], s, e, h, _ => h
  | q :: r, s, e, h, c => by
    obtain ⟨a, ec, hφ, c1, c2, c3, c4⟩ := h
    have l1 := c1.lt
    have l2 := Scw.le r c4
    exact ⟨a, ec, hφ, c1.cg (fun t t1 t2 => c t t1 (by omega)), by rw [(c a (by omega) (by omega)).1]; exact c2, by rw [(c a (by omega) (by omega)).2]; exact c3, Scw.cg r c4 (fun t t1 t2 => c t (by omega) t2)⟩
/-- one set more -/
theorem Scw.add {Φ : (Nat → Int × Int) → Prop} {w pl O P : Nat → Int} {q : Nat × Nat × Nat × Nat} {a : Nat} {ec : Nat → Int × Int} (hφ : Φ ec) : ∀ (l : List (Nat × Nat × Nat × Nat)) {s e : Nat}, Scw Φ w pl O P l s e → Cd w ec pl O P 0 0 0 q.2.1 q.2.2.1 e a → O a = 43 → P a = pl q.2.2.2 * 16 + (q.1 : Int) → Scw Φ w pl O P (l ++ [q]) s (a + 1)
  | [], s, e, h, c1, c2, c3 => by
    have h : s = e := h
    subst h
    exact ⟨a, ec, hφ, c1, c2, c3, rfl⟩
  | q' :: r, s, e, h, c1, c2, c3 => by
    obtain ⟨a', ec', hφ', d1, d2, d3, d4⟩ := h
    exact ⟨a', ec', hφ', d1, d2, d3, Scw.add hφ r d4 c1 c2 c3⟩
/-- the orders of a branch's sets begin at s -/
def SeC (M : mM) (O P L V : Nat) (W pl nq : Nat → Int) (sm : Nat → Nat → Prop) (n : Nat) (ns : Nat → Int) (ef : Nat → Nat) (nms : List nm9) (l : List (Nat × Nat × Nat × Nat)) (s : Nat) : Prop := ∃ (r l' : List nm9) (e : Nat), nms = r ++ l' ∧ (∀ q, q ∈ l → Eo W 6 q.2.1 q.2.2.1 ∧ q.2.2.1 ≤ n ∧ (fl W (E9 sm r 0) pl 0 q.2.1 q.2.2.1).1 = 0 ∧ q.1 < V ∧ 0 ≤ pl q.2.2.2 ∧ pl q.2.2.2 ≤ 16384) ∧ (∀ x, x < rcn r → ns x = 7 → ef x < s) ∧ Scw (LfC W nq sm n r) W pl (mI M O) (mI M P) l s e ∧ e < L ∧ mI M O e = 0
/-- consts and formulas lie in the program -/
def FmC (M : mM) (p O P L : Nat) (W pl nq : Nat → Int) (sm : Nat → Nat → Prop) (N n : Nat) (ns : Nat → Int) (sf ef : Nat → Nat) (nms : List nm9) : Prop := ∀ l1 e l2, nms = l1 ++ e :: l2 → e.2.1 ≠ 3 → ns (rcn l1) = srt9 e.2.1 ∧ (e.2.1 = 1 → e.2.2.2 = (0, mI M (p + 6) (rcn l1), mI M (p + 7) (rcn l1)) ∧ 1 ≤ mI M (p + 7) (rcn l1) ∧ mI M (p + 7) (rcn l1) < 1000000000) ∧ (e.2.1 = 2 → mI M (p + 8) (rcn l1) = ((sf (rcn l1) : Nat) : Int) ∧ sf (rcn l1) < ef (rcn l1) ∧ ef (rcn l1) < L ∧ mI M O (ef (rcn l1)) = 0 ∧ (∀ y, y < rcn l1 → ns y = 7 → ef y < sf (rcn l1)) ∧ ∃ ec, LfC W nq sm n l1 ec ∧ Cd W ec pl (mI M O) (mI M P) 0 0 0 (e.1 + 2) (nxq W 34 N e.1) (sf (rcn l1)) (ef (rcn l1)))
/-- the vars' ranges are sound -/
def VrO (nms : List nm9) (lo hi : Nat → Int) : Prop := ∀ l1 e l2, nms = l1 ++ e :: l2 → e.2.1 = 3 → ((lo (vcn l1)).natAbs ≤ 999999999 ∧ (hi (vcn l1)).natAbs ≤ 999999999) ∧ (e.2.2.1 = 1 → lo (vcn l1) = 0 ∧ hi (vcn l1) = 1)
/-- a command in the program -/
def CmC (M : mM) (p O P L V : Nat) (W pl nq : Nat → Int) (sm : Nat → Nat → Prop) (n : Nat) (ns : Nat → Int) (ef : Nat → Nat) (nms : List nm9) (c : Nat) (cm : cm9) : Prop := mI M (p + 9) c = cm.1 ∧ (cm.1 = 1 ∨ cm.1 = 2) ∧ mI M (p + 10) c = cm.2.1 ∧ (∃ s : Nat, mI M (p + 11) c = ((s : Nat) : Int) ∧ RuC M O P L W pl nq sm n ns ef nms cm.2.2.1.1 cm.2.2.1.2 s) ∧ ∃ u v : Nat, mI M (p + 12) c = ((u : Nat) : Int) ∧ mI M (p + 12) (c + 1) = ((v : Nat) : Int) ∧ (u ≤ v ∧ v ≤ u + 8 ∧ v ≤ 480) ∧ cm.2.2.2.length = v - u ∧ ∀ (b : Nat) (x : br9), cm.2.2.2[b]? = some x → mI M (p + 13) (u + b) = x.1 ∧ (∃ s : Nat, mI M (p + 14) (u + b) = ((s : Nat) : Int) ∧ RuC M O P L W pl nq sm n ns ef nms x.2.1.1 x.2.1.2 s) ∧ ∃ s : Nat, mI M (p + 15) (u + b) = ((s : Nat) : Int) ∧ SeC M O P L V W pl nq sm n ns ef nms x.2.2 s
/-- the program tells the game: its target, its commands -/
def PGx (M : mM) (p O P L V cnt : Nat) (W pl nq : Nat → Int) (sm : Nat → Nat → Prop) (n : Nat) (ns : Nat → Int) (ef : Nat → Nat) (nms : List nm9) (tg : Nat × Nat) (cms : List cm9) : Prop := VrO nms (mI M (p + 3)) (mI M (p + 4)) ∧ SgO (mI M (p + 5)) nms ∧ (∃ s : Nat, mI M p 11 = ((s : Nat) : Int) ∧ RuC M O P L W pl nq sm n ns ef nms tg.1 tg.2 s) ∧ cms.length = cnt ∧ ∀ (c : Nat) (cm : cm9), cms[c]? = some cm → CmC M p O P L V W pl nq sm n ns ef nms c cm
section PRG
variable {p O P L L' V n N : Nat} {M0 M M' : mM} {ns ns' : Nat → Int} {sf ef ef' : Nat → Nat} {W pl nq : Nat → Int} {sm : Nat → Nat → Prop} {nms : List nm9}
theorem FmC.cg (h : FmC M0 p O P L W pl nq sm N n ns sf ef nms) (e6 : mI M (p + 6) = mI M0 (p + 6)) (e7 : mI M (p + 7) = mI M0 (p + 7)) (e8 : mI M (p + 8) = mI M0 (p + 8)) (eO : mI M O = mI M0 O) (eP : mI M P = mI M0 P) : FmC M p O P L W pl nq sm N n ns sf ef nms := by
  unfold FmC
  rw [e6, e7, e8, eO, eP]
  exact h
theorem srt_7 {s : Nat} (h : srt9 s = 7) : s = 2 := by
  unfold srt9 at h
  by_cases y : s = 1
  · rw [if_pos y] at h; exact absurd h (by decide)
  · rw [if_neg y] at h
    by_cases y2 : s = 2
    · exact y2
    · rw [if_neg y2] at h; exact absurd h (by decide)
/-- code is the same below L -/
def cdE (O P L : Nat) (M M' : mM) : Prop := ∀ i, i < L → mI M' O i = mI M O i ∧ mI M' P i = mI M P i
theorem RuC.step {i j s : Nat} {l9 : List nm9} (h : RuC M O P L W pl nq sm n ns ef nms i j s) (c : cdE O P L M M') (hL : L ≤ L') (e : ∀ x, x < rcn nms → ns' x = ns x ∧ ef' x = ef x) : RuC M' O P L' W pl nq sm n ns' ef' (nms ++ l9) i j s := by
  obtain ⟨r, l, ec, e9, u1, u2, u3, u4, u5, u6, u7, u8, u9⟩ := h
  have rl : rcn nms = rcn r + rcn l := by rw [u1, rcn_app]
  exact ⟨r, l ++ l9, ec, e9, by rw [u1, List.append_assoc], u2, u3, u4, u5, fun x hx h7 => by
    rw [(e x (by omega)).1] at h7
    rw [(e x (by omega)).2]
    exact u6 x hx h7, u7.cg (fun t _ t2 => c t (by omega)), by omega, by rw [(c e9 (by omega)).1]; exact u9⟩
theorem SeC.step {l9 : List nm9} {V' s : Nat} {l : List (Nat × Nat × Nat × Nat)} (h : SeC M O P L V W pl nq sm n ns ef nms l s) (c : cdE O P L M M') (hL : L ≤ L') (hV : V ≤ V') (e : ∀ x, x < rcn nms → ns' x = ns x ∧ ef' x = ef x) : SeC M' O P L' V' W pl nq sm n ns' ef' (nms ++ l9) l s := by
  obtain ⟨r, l', e9, u1, u2, u6, u7, u8, u9⟩ := h
  have rl : rcn nms = rcn r + rcn l' := by rw [u1, rcn_app]
  exact ⟨r, l' ++ l9, e9, by rw [u1, List.append_assoc], fun q hq => ⟨(u2 q hq).1, (u2 q hq).2.1, (u2 q hq).2.2.1, by have := (u2 q hq).2.2.2.1; omega, (u2 q hq).2.2.2.2⟩, fun x hx h7 => by
    rw [(e x (by omega)).1] at h7
    rw [(e x (by omega)).2]
    exact u6 x hx h7, Scw.cg l u7 (fun t _ t2 => c t (by omega)), by omega, by rw [(c e9 (by omega)).1]; exact u9⟩
end PRG
end
end
section
section
/-! The class's reader of texts, exactly: steps. -/
section TXB
variable {G : mG} {d z q w T A B D N C n p O P K Ab Be Cm V F c s L L' cnt Bn a d0 V1 F1 : Nat} {M0 M M' M1 M2 : mM} {ns ns' ns1 : Nat → Int} {sf ef sf' ef' : Nat → Nat} {H : Nat → Nat} {S R : Nat → Prop} {W pl nq : Nat → Int} {sm : Nat → Nat → Prop} {nms : List nm9} {u : Ru} {ft : Int × Int} {zz zr : List Int}
/-- words stay -/
theorem TP.txt (h : TP M z q w T A B D N C n p O P K Ab Be Cm) (f : FI (txS q p O P) M M') : mI M' T = mI M T := by
  have ap := h.apart
  obtain ⟨⟨-, -, -, -, -, b6, -⟩, -, -, -, -, ⟨-, -, s3⟩, -⟩ := h
  refine f.2.2.2.2.2.2 T (fun y => ?_)
  exact t6a (s3 T (Or.inr (Or.inl rfl))).1 (b6.2.2 T (Or.inr (Or.inl rfl))) y
theorem WTq.fi (wt : WTq M T A B D n W pl nq sm) (h : TP M z q w T A B D N C n p O P K Ab Be Cm) (f : FI (txS q p O P) M M') : WTq M' T A B D n W pl nq sm := by
  obtain ⟨e1, e2, e3, -⟩ := h.words f
  exact wt.cg (h.txt f) e1 e2 e3
theorem x_tx_accept {x : Int} (hx : i32 x) (x0 : x ≠ 0) (h : TX M z q w T A B D N C n p O P K Ab Be Cm V F ns sf ef c cnt L) (ha : mI M (q + 1) 2 = a) (han : a ≤ n) : Ci G y_RR_accept d [vr (q + 1), vi x] M (fun v M' => i32 v ∧ mOk M' ∧ (v = 0 ∨ v = 1) ∧ TX M' z q w T A B D N C n p O P K Ab Be Cm V F ns sf ef c cnt L ∧ txF M q p O P L M' ∧ ((v = 1 ∧ mI M A a = x ∧ mI M' (q + 1) 2 = ((a + 1 : Nat) : Int) ∧ a < n) ∨ (v = 0 ∧ M' = M)) ∧ (∀ i, i ≠ 2 → mI M' (q + 1) i = mI M (q + 1) i) ∧ (∀ b, b ≠ q + 1 → mI M' b = mI M b) ∧ (v = 0 → mI M A a ≠ x)) := by
  refine (s_RR_accept hx h.1.1 ha han).mono (fun v M' k => ?_)
  obtain ⟨k1, k2⟩ := k
  rcases k2 with ⟨e1, e2, e3, e4⟩ | ⟨e1, e2, e3⟩
  · have hN : n ≤ 16384 := by have := h.1.1.2.2.2.1.2.2.1; have := h.1.1.2.2.2.1.1.2.2.2.2.2.2.1; omega
    have u := tx_ui h ⟨by omega, by omega⟩ e3 (Or.inr (Or.inr (Or.inr (Or.inl ⟨rfl, Or.inl rfl⟩))))
    have an : a < n := by
      have : a ≠ n := fun y => by
        have hA := h.1.1.2.2.2.1.2.2.2.2.1
        rw [y, hA] at e2
        exact x0 e2.symm
      omega
    refine ⟨by rw [e1]; exact i32s (by omega) (by omega), k1.1, Or.inr e1, u.1, u.2.1, Or.inl ⟨e1, e2, by rw [e4]; omega, an⟩, fun i hi => by rw [u.2.2, if_neg (fun y => hi y.2)], fun b hb => ?_, fun y => by rw [y] at e1; exact absurd e1 (by decide)⟩
    funext i
    rw [u.2.2, if_neg (fun y => hb y.1)]
  · subst e3
    exact ⟨by rw [e1]; exact i32s (by omega) (by omega), k1.1, Or.inl e1, h, txF.refl, Or.inr ⟨e1, rfl⟩, fun _ _ => rfl, fun _ _ => rfl, fun _ => e2⟩
theorem x_tx_note {x y : Int} (hx : i32 x) (x0 : x ≠ 0) (hy : i32 y) (h : TX M z q w T A B D N C n p O P K Ab Be Cm V F ns sf ef c cnt L) : Cv G y_RR_note d [vr (q + 1), vi x, vi y] M (fun M' => mOk M' ∧ TX M' z q w T A B D N C n p O P K Ab Be Cm V F ns sf ef c cnt L ∧ txF M q p O P L M' ∧ mI M' (q + 1) 3 ≠ 0 ∧ (∀ i, i ≠ 3 → i ≠ 4 → mI M' (q + 1) i = mI M (q + 1) i) ∧ (∀ b, b ≠ q + 1 → mI M' b = mI M b) ∧ Fqq M (q + 1) (x, y) M') := by
  have ap := h.1.apart
  have qp := h.1.2.2.2.2.2.1.2.1
  refine (x_RR_note hx hy h.1.1).mono (fun M' k => ?_)
  obtain ⟨k1, k2, k3, k4, k5, k6⟩ := k
  have n3 : mI M' (q + 1) 3 ≠ 0 := by
    by_cases u : mI M (q + 1) 3 = 0
    · rw [k4 u]; exact x0
    · rw [k5 u]; exact u
  have nb : ∀ b, b ≠ q + 1 → mI M' b = mI M b := fun b hb => k2.2.2.2.2.2.2 b hb
  have ff : txF M q p O P L M' := ⟨k2.mono (fun b y => Or.inl (by have y' : b = q + 1 := y; omega)), fun i _ i3 i4 _ _ _ _ _ => k3 i i3 i4, fun _ => n3, fun i _ _ => nb _ (by omega), fun i _ => by rw [nb p (by first | (have h1 := qp; omega) | omega)], fun i _ _ => nb _ (by omega), fun i _ => ⟨by rw [nb O (by first | (have h1 := ap.2.2.2.1; have h2 := ap.2.1; omega) | omega)], by rw [nb P (by first | (have h1 := ap.2.2.2.2.1; have h2 := ap.2.2.1; omega) | omega)]⟩⟩
  exact ⟨k1.1, h.tx k1.1 ff (fun j => by rw [nb _ (by omega)]; exact h.2.1.2.2.2 j), ff, n3, k3, nb, k6 x0⟩
theorem x_tx_rule {l1 l2 : Int} (i1 : i32 l1) (i2 : i32 l2) (h : TX M z q w T A B D N C n p O P K Ab Be Cm V F ns sf ef c cnt L) (ha : mI M (q + 1) 2 = a) (han : a ≤ n) (hs : mI M p 2 = s) (hLs : L ≤ s) (hsa : s ≤ a) (hd : mI M (q + 1) 5 = d0) (hd4 : d0 ≤ 40) (nk : NK M (q + 1) A n V1 F1 ns1 c) (uq : UQ u M (q + 1) T A B D n c) (hI : ruI u = a) (hF : FT M (q + 1) (uF u)) (hD : mI M (q + 1) 5 = slv (uZ u)) (hask : Hid ((l2 = 0 → uQ u = 5) ∧ (l2 ≠ 0 → uQ u = 6))) (hz : Hid (∀ j, lwx (ruW u j) = 3 → Rf (ruW u) (uZ u) j j)) (hR : Rc (ruW u) (uS u) (uK u) (gyW (uZ u) (uQ u) []) a) : Ci G y_RR_readRule (d + 4) [vr (q + 1), vi l1, vi l2] M (fun x M' => i32 x ∧ mOk M' ∧ ruQ M z q w T A B D N C n p O P K Ab Be Cm V F ns sf ef c cnt L s V1 F1 ns1 a x M' ∧ rleV u (q + 1) p O P s l1 x M') := by
  have ap := h.1.apart
  have qp := h.1.2.2.2.2.2.1.2.1
  refine (x_RR_readRule i1 i2 h.1.1 ha han hs hsa hd hd4 h.2.1.2.2.2 nk uq hI hF hD hask hz hR).mono (fun x M' k => ?_)
  obtain ⟨⟨k1, k2, k3, k4⟩, kv⟩ := k
  have ff := rr_tx h.1 k2
  have hx : x = 0 ∨ x = 1 := by
    rcases k4 with ⟨e, -⟩ | ⟨e, -⟩
    · exact Or.inl e
    · exact Or.inr e
  have nb : ∀ b, b = q ∨ b = q + 21 ∨ b = q + 22 → mI M' b = mI M b := fun b hb => k2.1.2.2.2.2.2.2 b (fun y => by
    exact u7a qp ap.2.1 ap.2.2.1 hb y)
  have ix : i32 x := by
    clear k4
    exact i32s (by omega) (by omega)
  refine ⟨ix, k1.1, ⟨h.tx k1.1 (ff.less hLs) k3, ff, ⟨k2.2.1 6 (by decide) (by decide) (by decide) (by decide) (by decide) (by decide) (by decide), nb q (Or.inl rfl), nb _ (Or.inr (Or.inl rfl)), nb _ (Or.inr (Or.inr rfl))⟩, ?_⟩, kv⟩
  rcases k4 with ⟨e, a', L1, e1, -, e3, -⟩ | ⟨e, H', L1, a', g, haa⟩
  · exact Or.inl ⟨e, a', e1, e3⟩
  · obtain ⟨⟨g1, g2, g3, g4⟩, -, ⟨g5, g6⟩, -, ⟨g8, -⟩, -, -, ⟨gH, gHs⟩, gC, gL, -⟩ := g
    have b0 : bs M' (q + 1) 0 = 0 := rfl
    have s0 : sdp M' (q + 1) 0 = 0 := rfl
    have e0 : se M' (q + 1) 0 = 0 := rfl
    have u0 : uw 0 = 1 := rfl
    have hs0 := (gC s (Nat.le_refl _) (by omega)).2.2
    refine Or.inr ⟨e, L1, H', a', fun pc h0 h1 => ?_, by omega, by omega, by omega, g4, g1, haa, g5, by omega, by rw [g8, s0, hd]; omega⟩
    obtain ⟨c1, c2, c3⟩ := gC pc h0 h1
    refine ⟨c1, fun y => Or.inr ?_, c3⟩
    rcases c2 y with ⟨i, hi, -⟩ | u
    · exact absurd hi (by omega)
    · exact u
/-- a rule of an item, exactly: read from word a on, the pile zz below it, the fault ft before it -/
def irV (W pl E : Nat → Int) (Cf : Nat → Int × Int) (q p O P s a : Nat) (ft : Int × Int) (zz : List Int) (l1 x : Int) (M' : mM) : Prop := ∃ a' : Nat, mI M' (q + 1) 2 = a' ∧ ((x = 0 ∧ Rf W [50] 0 a') ∨ (x = 1 ∧ ∃ L' : Nat, mI M' p 2 = ((L' + 1 : Nat) : Int) ∧ mI M' O L' = 0 ∧ Eo W 6 a a' ∧ mI M' (q + 6) 0 = kdq W E 0 a a' ∧ FT M' (q + 1) (fst9 (fst9 ft (fl W E pl 0 a a')) (kft (l1 = 0 ∨ kdq W E 0 a a' = (if l1 = 2 then 1 else 0)) (pl a))) ∧ Cd W Cf pl (mI M' O) (mI M' P) 0 0 0 a a' s L' ∧ Rc W [50] 0 zz a'))
/-- kinds and orders of words, out of the names -/
def ECq (M : mM) (r p n : Nat) (W nq : Nat → Int) (sm : Nat → Nat → Prop) (nms : List nm9) (c : Nat) (co : Int) (E : Nat → Int) (Cf : Nat → Int × Int) : Prop := (∀ v, n ≤ v → Cf v = (3, 0)) ∧ (CT M r p nms → nms.length = c → (E = E9 sm nms (if co = 0 then 0 else 1) ∧ ∀ v, v < n → (W v = 2 → Cf v = (3, nq v)) ∧ (W v = 12 → Cf v = (3, 1)) ∧ (W v = 13 → Cf v = (3, 0)) ∧ (W v = 1 → E v ≠ -1 → ∃ (i : Nat) (e : nm9), nms[i]? = some e ∧ fnd9 sm nms v = some e ∧ (co = 0 ∨ e.2.1 = 1) ∧ Cf v = (mI M (r + 7) i, mI M (r + 8) i) ∧ ∀ (j : Nat) (e' : nm9), j < i → nms[j]? = some e' → ¬ sm e'.1 v)))
theorem x_TR_readItemRule {k : Nat} {l2 : Int} (hk : k < 3) (i2 : i32 l2) (h : TX M z q w T A B D N C n p O P K Ab Be Cm V F ns sf ef c cnt L) (ha : mI M (q + 1) 2 = a) (han : a ≤ n) (hs : mI M p 2 = s) (hLs : L ≤ s) (hsa : s ≤ a) (hd : mI M (q + 1) 5 = d0) (hd4 : d0 ≤ 40) (nk : NK M (q + 1) A n V1 F1 ns1 c) (wt : WTq M T A B D n W pl nq sm) (hF : FT M (q + 1) ft) (hD : mI M (q + 1) 5 = slv zz) (hz : ∀ j, lwx (W j) = 3 → Rf W zz j j) (hR : Rc W [50] 0 (61 :: zz) a) : Ci G y_TR_readItemRule (d + 5) [vr q, vi k, vi l2] M (fun x M' => irQ M z q w T A B D N C n p O P K Ab Be Cm V F ns sf ef c cnt L s V1 F1 ns1 a k x M' ∧ (∀ i, mI M' (q + 22) i = if i = k then pl a else mI M (q + 22) i) ∧ ∃ E Cf, ECq M (q + 1) p n W nq sm nms c (mI M (q + 1) 6) E Cf ∧ irV W pl E Cf q p O P s a ft zz l2 x M') := by
  have ap := h.1.apart
  have qp := h.1.2.2.2.2.2.1.2.1
  have ok := h.1.1.1
  obtain ⟨t0, t1, t2, t3, t4, t5⟩ := h.1.2.1
  obtain ⟨s1, s2, s3, s4⟩ := h.1.2.2.1
  have hN : n ≤ 16384 := by have := h.1.1.2.2.2.1.2.2.1; have := h.1.1.2.2.2.1.1.2.2.2.2.2.2.1; omega
  refine k_TR_readItemRule ok (i32s (by omega) (by omega)) i2 ?_
  rw [t3, t4, s3, Int.toNat_natCast, hs]
  refine ⟨t0, h.1.1.2.2.2.2.1.1, s1, by omega, fun M5 e5 => ?_⟩
  obtain ⟨h5, x5, g5⟩ := tx_ui h ⟨by omega, by omega⟩ e5 (Or.inr (Or.inl rfl))
  have a5 : mI M5 (q + 1) 2 = a := by rw [g5, if_neg (by omega)]; exact ha
  rw [h5.1.2.1.2.1]
  refine ⟨h5.1.1.2.1.1, (s_RR_here h5.1.1 a5 han).mono (fun x9 M8 kk => ?_)⟩
  obtain ⟨e8, ex9, x0, x1⟩ := kk
  subst e8
  rw [h5.1.2.1.2.2.2.2.2, h5.1.2.2.1.2.2.2]
  refine ⟨i32s (by omega) (by omega), h5.1.1.1, h5.1.2.2.1.2.1, by omega, fun M13 e13 => ?_⟩
  obtain ⟨h13, x13, g13⟩ := tx_ui h5 (i32s (by omega) (by omega)) e13 (Or.inr (Or.inr (Or.inl rfl)))
  have gg : ∀ b i, b ≠ q + 21 → b ≠ q + 22 → mI M13 b i = mI M b i := fun b i b1 b2 => by rw [g13, if_neg (by omega), g5, if_neg (by omega)]
  have ff : ∀ b, b ≠ q + 21 → b ≠ q + 22 → mI M13 b = mI M b := fun b b1 b2 => by funext i; exact gg b i b1 b2
  have nk13 : NK M13 (q + 1) A n V1 F1 ns1 c := by
    unfold NK at nk ⊢
    rw [ff A (fun u => (h.1.2.2.2.2.2.1.2.2 A (by omega)).1 (by omega)) (fun u => (h.1.2.2.2.2.2.1.2.2 A (by omega)).1 (by omega)), gg (q + 1) 19 (by omega) (by omega), gg (q + 1) 6 (by omega) (by omega), ff (q + 1 + 6) (by omega) (by omega), ff (q + 1 + 7) (by omega) (by omega), ff (q + 1 + 8) (by omega) (by omega), ff (q + 1 + 9) (by omega) (by omega)]
    exact nk
  have hw13 : ∀ i, i < c → ∃ v : Nat, mI M13 (q + 1 + 6) i = v ∧ v < n ∧ mI M13 A v = 2 := fun i hi => (nk13.2.2 i hi).1
  have wt13 : WTq M13 T A B D n W pl nq sm := wt.fi h.1 (x5.1.trans x13.1)
  obtain ⟨E, Cf, uq, big, ec⟩ := uq_ex (p := p) (nms := nms) (c := c) wt13 hw13 rfl
  have ecq : ECq M (q + 1) p n W nq sm nms c (mI M (q + 1) 6) E Cf := by
    refine ⟨big, fun ct hl => ?_⟩
    have e6 : mI M13 (q + 1) 6 = mI M (q + 1) 6 := gg _ _ (by omega) (by omega)
    have ct13 : CT M13 (q + 1) p nms := by
      unfold CT at ct ⊢
      rw [gg (q + 1) 19 (by omega) (by omega), ff (q + 1 + 6) (by omega) (by omega), ff (q + 1 + 7) (by omega) (by omega), ff (q + 1 + 8) (by omega) (by omega), ff (q + 1 + 9) (by omega) (by omega), ff (p + 6) (by omega) (by omega), ff (p + 7) (by omega) (by omega)]
      exact ct
    have := ec ct13 hl
    rw [e6, ff (q + 1 + 7) (by omega) (by omega), ff (q + 1 + 8) (by omega) (by omega)] at this
    exact this
  have f13 : txF M q p O P s M13 := by
    have u := x5.trans x13
    exact ⟨u.1, u.2.1, u.2.2.1, u.2.2.2.1, u.2.2.2.2.1, u.2.2.2.2.2.1, fun i _ => ⟨gg O i (by omega) (by omega), gg P i (by omega) (by omega)⟩⟩
  rw [h13.1.2.1.2.1]
  refine ⟨h13.1.2.1.1, h13.1.1.2.1.1, (x_tx_rule (u := (W, E, pl, Cf, (a, ft), (zz, 6), ([50], 0))) i2 (i32s (by omega) (by omega)) h13 (by rw [gg _ _ (by omega) (by omega)]; exact ha) han (by rw [gg p 2 (by omega) (by omega)]; exact hs) hLs hsa (by rw [gg _ _ (by omega) (by omega)]; exact hd) hd4 nk13 (uq _) rfl (hF.same (gg _ _ (by omega) (by omega)) (gg _ _ (by omega) (by omega))) (by rw [gg _ _ (by omega) (by omega)]; exact hD) ⟨fun y => absurd y (by decide), fun _ => rfl⟩ hz hR).mono (fun x18 M17 kk => ?_)⟩
  obtain ⟨i18, o17, ⟨r1, r2, ⟨r3, r4, r5, r6⟩, r7⟩, a9, ea9, rv⟩ := kk
  have T21 : ∀ i, mI M17 (q + 21) i = if i = k then (s : Int) else mI M (q + 21) i := fun i => by
    rw [r5, g13, if_neg (by omega), g5]
    by_cases y : i = k
    · rw [if_pos ⟨rfl, y⟩, if_pos y]
    · rw [if_neg (fun u => y u.2), if_neg y]
  have T22 : ∀ i, mI M17 (q + 22) i = if i = k then pl a else mI M (q + 22) i := fun i => by
    have eB : x9 = pl a := by rw [ex9, (h.1.words x5.1).2.1]; exact (wt.1 a han).2.2
    rw [r6, g13]
    by_cases y : i = k
    · rw [if_pos ⟨rfl, y⟩, if_pos y, eB]
    · rw [if_neg (fun u => y u.2), if_neg y, g5, if_neg (by omega)]
  have b6 : mI M17 (q + 1) 6 = mI M (q + 1) 6 := by rw [r3, gg _ _ (by omega) (by omega)]
  have bq : mI M17 q = mI M q := by rw [r4, ff _ (by omega) (by omega)]
  refine ⟨i18, o17, fun y => ?_, fun y => ?_⟩
  · obtain ⟨-, a', u1, u2⟩ := r7.resolve_right (fun u => by have := u.1; omega)
    refine ⟨⟨r1, f13.trans r2, ⟨b6, bq, T21⟩, Or.inl ⟨rfl, a', u1, u2⟩⟩, T22, E, Cf, ecq, a9, ea9, Or.inl ⟨rfl, ?_⟩⟩
    rcases rv with ⟨-, rv⟩ | ⟨rv, -⟩
    · exact rv
    · exact absurd y (by rw [rv]; decide)
  · obtain ⟨-, e, H, a', u1, u2, u3, u4, u5, u6, u7, u8, u9, u10⟩ := r7.resolve_left (fun u => y u.1)
    rw [r1.1.2.1.2.2.2.1]
    refine ⟨r1.1.2.1.1, r1.1.1.2.2.2.2.1.1, (s_tx_add (i32s (by omega) (by omega)) (i32s (by omega) (by omega)) r1 u5 (by omega) (by omega)).mono (fun v M24 kk => ?_)⟩
    obtain ⟨v1, v2, v3, v4, v5, v6, v7, v8⟩ := kk
    obtain ⟨L9, g1, g2, g3, g4, g5, g6, g7⟩ : rlD (W, E, pl, Cf, (a, ft), (zz, 6), ([50], 0)) (q + 1) p O P s a9 _ M17 := (rv.resolve_left (fun u => y u.1)).2
    have eL : e = L9 := by rw [u5] at g1; omega
    subst eL
    have key : irV W pl E Cf q p O P s a ft zz l2 1 M24 := by
      refine ⟨a9, by rw [v8 (q + 1) (by omega) (by omega) (by omega)]; exact ea9, Or.inr ⟨rfl, e, v5, by rw [v6, if_pos rfl], g2, ?_, ?_, ?_, g7⟩⟩
      · rw [show q + 6 = q + 1 + 5 by first | rfl | omega, v8 (q + 1 + 5) (by omega) (by omega) (by omega)]; exact g3
      · exact g4.same (by rw [v8 (q + 1) (by omega) (by omega) (by omega)]) (by rw [v8 (q + 1) (by omega) (by omega) (by omega)])
      · exact g5.cg (fun t t1 t2 => ⟨by rw [v6, if_neg (by omega)], by rw [v7, if_neg (by omega)]⟩)
    refine ⟨v1, v2, ⟨v3, (f13.trans r2).trans (v4.less (by omega)), ⟨by rw [v8 (q + 1) (by omega) (by omega) (by omega)]; exact b6, by rw [v8 q (by omega) (by omega) (by omega)]; exact bq, fun i => by rw [v8 (q + 21) (by omega) (by omega) (by omega)]; exact T21 i⟩, Or.inr ⟨rfl, e, H, a', ⟨fun pc h0 h1 => ?_, u2, u3, u4, by rw [v6, if_pos rfl], by omega⟩, v5, by rw [v8 (q + 1) (by omega) (by omega) (by omega)]; exact u6, u7, u8, u9, by rw [v8 (q + 1) (by omega) (by omega) (by omega), u10, gg _ _ (by omega) (by omega)]⟩⟩, fun i => by rw [v8 (q + 22) (by omega) (by omega) (by omega)]; exact T22 i, E, Cf, ecq, key⟩
    rw [v6, v7, if_neg (by omega), if_neg (by omega)]
    exact u1 pc h0 h1
end TXB
end
section
/-! The class's reader of texts, exactly: names, consts, formulas. -/
section TXC
variable {G : mG} {d z q w T A B D N C n p O P K Ab Be Cm V F c s L L' cnt Bn a d0 V1 F1 nw : Nat} {M0 M M' M1 M2 : mM} {ns ns' ns1 : Nat → Int} {sf ef sf' ef' : Nat → Nat} {H : Nat → Nat} {S R : Nat → Prop} {W pl nq : Nat → Int} {sm : Nat → Nat → Prop} {nms : List nm9} {ft : Int × Int} {zz zr : List Int}
theorem WTq.is (wt : WTq M T A B D n W pl nq sm) (ha : a ≤ n) {y : Int} (h1 : 1 ≤ y) (h2 : y ≤ 38) : mI M A a = y + 1 ↔ W a = y := by
  obtain ⟨u1, u2, -⟩ := wt.1 a ha
  rw [u2]
  exact (csq_w u1).2.2 y h1 h2
theorem rc_t {y : Int} (h : Rc W [50] 0 (y :: zr) a) (e : W a = y) (hy : y < 50) : Rc W [50] 0 zr (a + 1) := h.trans (Rc.one (mst_t hy e.symm))
theorem rf_t {y : Int} (h : Rc W [50] 0 (y :: zr) a) (e : W a ≠ y) (hy : y < 50) : Rf W [50] 0 a := h.rf (Rf.of (mst_tn hy (fun u => e u.symm)))
theorem CT.cg (ct : CT M (q + 1) p nms) (h19 : mI M' (q + 1) 19 = mI M (q + 1) 19) (h6 : mI M' (q + 1 + 6) = mI M (q + 1 + 6)) (h7 : mI M' (q + 1 + 7) = mI M (q + 1 + 7)) (h8 : mI M' (q + 1 + 8) = mI M (q + 1 + 8)) (h9 : mI M' (q + 1 + 9) = mI M (q + 1 + 9)) (p6 : mI M' (p + 6) = mI M (p + 6)) (p7 : mI M' (p + 7) = mI M (p + 7)) : CT M' (q + 1) p nms := by
  unfold CT at ct ⊢
  rw [h19, h6, h7, h8, h9, p6, p7]
  exact ct
theorem CT.tx (ct : CT M (q + 1) p nms) (f : txE M q p O P s M') : CT M' (q + 1) p nms := by
  obtain ⟨f2, -, f4, -, f6, -⟩ := f
  exact ct.cg (f2 19 (by decide) (by decide) (by decide) (by decide) (by decide) (by decide) (by decide) (by decide)) (f4 6 (by omega) (by omega)) (f4 7 (by omega) (by omega)) (f4 8 (by omega) (by omega)) (f4 9 (by omega) (by omega)) (f6 6 (by omega) (by omega)) (f6 7 (by omega) (by omega))
/-- a name is known already -/
def knf (sm : Nat → Nat → Prop) (pl : Nat → Int) (nms : List nm9) (v : Nat) (f2 : Int × Int) : Prop := (fnd9 sm nms v = none → f2 = (0, 0)) ∧ (fnd9 sm nms v ≠ none → f2 = (2, pl v))
/-- what readName comes to, exactly -/
def rnV (W pl : Nat → Int) (sm : Nat → Nat → Prop) (M : mM) (q p c a : Nat) (nms : List nm9) (ft : Int × Int) (zr : List Int) (x : Int) (M' : mM) : Prop := ∃ a' : Nat, mI M' (q + 1) 2 = a' ∧ ((x = 0 ∧ Rf W [50] 0 a') ∨ (x = 1 ∧ a' = a + 2 ∧ W (a + 1) = 1 ∧ Rc W [50] 0 zr (a + 2) ∧ ∃ f2, FT M' (q + 1) (fst9 ft f2) ∧ (CT M (q + 1) p nms → nms.length = c → knf sm pl nms (a + 1) f2)))
theorem x_rn19 {l1 : Int} {Mc : mM} (hcc : CT Mc (q + 1) p nms → CT M (q + 1) p nms) (h : TX M z q w T A B D N C n p O P K Ab Be Cm V F ns sf ef c cnt L) (f0 : txF M0 q p O P L M) (g0 : nmF M0 q M) (hY : l1 ≠ 0 → mI M (q + 1) 3 ≠ 0) (ha : mI M (q + 1) 2 = a) (han : a < n) (wt : WTq M T A B D n W pl nq sm) (hF : FT M (q + 1) ft) (hR : Rc W [50] 0 (1 :: zr) (a + 1)) : h_TR_readName_19 G (d + 1) q M (fun x M' => rnmQ M0 z q w T A B D N C n p O P K Ab Be Cm V F ns sf ef c cnt L a l1 x M' ∧ rnV W pl sm Mc q p c a nms ft zr x M') := by
  have ap := h.1.apart
  have ok := h.1.1.1
  obtain ⟨t0, t1, t2, t3, t4, t5⟩ := h.1.2.1
  have k4 := h.1.1.2.1.1
  have hN : n ≤ 16384 := by have := h.1.1.2.2.2.1.2.2.1; have := h.1.1.2.2.2.1.1.2.2.2.2.2.2.1; omega
  refine k_TR_readName_19 ok ?_
  rw [t1, ha]
  refine ⟨t0, k4, ⟨by omega, by omega⟩, fun M15 e15 => ?_⟩
  obtain ⟨h15, x15, g15⟩ := tx_ui h ⟨by omega, by omega⟩ e15 (Or.inr (Or.inr (Or.inr (Or.inl ⟨rfl, Or.inl rfl⟩))))
  have a15 : mI M15 (q + 1) 2 = ((a + 1 : Nat) : Int) := by rw [g15, if_pos ⟨rfl, rfl⟩]; omega
  rw [h15.1.2.1.2.1, a15]
  refine ⟨h15.1.1.2.1.1, fun M18 e18 => ?_⟩
  obtain ⟨h18, x18, g18⟩ := tx_ui h15 ⟨by omega, by omega⟩ e18 (Or.inl rfl)
  have a18 : mI M18 (q + 1) 2 = ((a + 1 : Nat) : Int) := by rw [g18, if_neg (by omega)]; exact a15
  have n18 : nmF M0 q M18 := g0.trans ⟨fun i i2 i3 i4 => by rw [g18, if_neg (by omega), g15, if_neg (by omega)], fun i i3 => by rw [g18, if_neg (by omega), g15, if_neg (by omega)], fun b b1 b2 => by
    funext i
    rw [g18, if_neg (by omega), g15, if_neg (by omega)]⟩
  have q18 : mI M18 q 3 = ((a + 1 : Nat) : Int) := by rw [g18, if_pos ⟨rfl, rfl⟩]
  have f18 := (f0.trans x15).trans x18
  have Y18 : l1 ≠ 0 → mI M18 (q + 1) 3 ≠ 0 := fun y => by rw [g18, if_neg (by omega), g15, if_neg (by omega)]; exact hY y
  rw [h18.1.2.1.2.1]
  refine ⟨h18.1.1.2.1.1, (x_tx_accept (x := 2) (i32s (by omega) (by omega)) (by omega) h18 a18 (by omega)).mono (fun v M21 k => ?_)⟩
  obtain ⟨v32, o21, vv, h21, x21, k1, k2, k3, k4'⟩ := k
  have wt18 : WTq M18 T A B D n W pl nq sm := wt.fi h.1 (x15.1.trans x18.1)
  have F18 : FT M18 (q + 1) ft := hF.same (by rw [g18, if_neg (by omega), g15, if_neg (by omega)]) (by rw [g18, if_neg (by omega), g15, if_neg (by omega)])
  have n21 : nmF M0 q M21 := n18.trans ⟨fun i i2 _ _ => k2 i i2, fun i _ => by rw [k3 q (by omega)], fun b _ b2 => k3 b b2⟩
  have f21 := f18.trans x21
  have Y21 : l1 ≠ 0 → mI M21 (q + 1) 3 ≠ 0 := fun y => by rw [k2 3 (by decide)]; exact Y18 y
  refine ⟨v32, o21, fun y => ?_, fun y => ?_⟩
  · have e := (k1.resolve_left (fun u => by have := u.1; omega)).2
    rw [e]
    exact ⟨⟨h18, f18, n18, Y18, Or.inl ⟨rfl, a + 1, a18, by omega⟩⟩, a + 1, a18, Or.inl ⟨rfl, rf_t hR (fun u => k4' y ((wt18.is (by omega) (by omega) (by omega)).mpr u)) (by decide)⟩⟩
  · obtain ⟨e1, e2, e3, e4⟩ := k1.resolve_right (fun u => y u.1)
    have w1 : W (a + 1) = 1 := (wt18.is (by omega) (by omega) (by omega)).mp e2
    have rc2 := rc_t hR w1 (by decide)
    have wt21 : WTq M21 T A B D n W pl nq sm := wt18.fi h18.1 x21.1
    have F21 : FT M21 (q + 1) ft := F18.same (k2 3 (by decide)) (k2 4 (by decide))
    have ct21 : CT Mc (q + 1) p nms → CT M21 (q + 1) p nms := fun ct => (((hcc ct).tx x15.2).tx x18.2).tx x21.2
    have hw21 : ∀ i, i < c → ∃ v : Nat, mI M21 (q + 1 + 6) i = v ∧ v < n ∧ mI M21 A v = 2 := fun i hi => (h21.2.1.2.2.1.2.2 i hi).1
    have A21 : mI M21 A (a + 1) = 2 := by rw [(h18.1.words x21.1).1]; exact e2
    have q21 : mI M21 q 3 = ((a + 1 : Nat) : Int) := by rw [k3 q (by omega)]; exact q18
    rw [h21.1.2.1.2.1, q21]
    refine ⟨h21.1.2.1.1, h21.1.1.2.1.1, (x_RR_find h21.1.1 h21.2.1.2.2.1.nk e4 A21).mono (fun x29 M28 kk => ?_)⟩
    obtain ⟨e28, hx⟩ := kk
    subst e28
    have c72 := h21.2.1.2.2.1.2.1
    have i29 : i32 x29 := by rcases hx with ⟨u, -⟩ | ⟨i, u, hi, -⟩ <;> rw [u] <;> exact i32s (by omega) (by omega)
    obtain ⟨⟨w1', ⟨p0, p3, p4, p5⟩, -, ⟨kA, kB, kD⟩, ⟨cA, cB, cD⟩, w6, w7, w8, -⟩, -⟩ := id h21.1.1.2.2.2.1
    rw [h21.1.2.1.2.1, h21.1.1.2.2.1.1, p4, cB, q21, Int.toNat_natCast]
    have nN := h21.1.1.2.2.2.1.2.2.1
    refine ⟨i29, o21, fun yn => ⟨⟨h21, f21, n21, Y21, Or.inr ⟨rfl, e3, by omega, q21, A21⟩⟩, a + 2, e3, Or.inr ⟨rfl, rfl, w1, rc2, (0, 0), F21.none, fun ct hl => ?_⟩⟩, fun yn => ⟨h21.1.2.1.1, h21.1.1.2.1.1, w1', kB, by omega, (x_tx_note (x := 2) (i32s (by omega) (by omega)) (by omega) (o21 _ _).1 h21).mono (fun M44 kk => ?_)⟩⟩
    · have nn : nmn M28 (q + 1) T B D c (a + 1) := by
        rcases hx with ⟨-, u⟩ | ⟨i, u, hi, -⟩
        · exact u
        · exact absurd yn (by omega)
      rcases (ct21 ct).fnd wt21 (by rw [hl]; exact hw21) e4 w1 with ⟨-, q2⟩ | ⟨i, e, q1, -, -⟩
      · exact ⟨fun _ => rfl, fun z => absurd q2 z⟩
      · rw [hl] at q1; exact absurd q1.2.1 (nn i q1.1)
    obtain ⟨o44, h44, x44, u3, u4, u5, u6⟩ := kk
    have n44 : nmF M0 q M44 := n21.trans ⟨fun i _ i3 i4 => u4 i i3 i4, fun i _ => by rw [u5 q (by omega)], fun b _ b2 => u5 b b2⟩
    have eB : mI M28 B (a + 1) = pl (a + 1) := (wt21.1 (a + 1) (by omega)).2.2
    refine ⟨o44, ⟨h44, f21.trans x44, n44, fun _ => u3, Or.inr ⟨rfl, by rw [u4 2 (by decide) (by decide)]; exact e3, by omega, by rw [u5 q (by omega)]; exact q21, by rw [(h21.1.words x44.1).1]; exact A21⟩⟩, a + 2, by rw [u4 2 (by decide) (by decide)]; exact e3, Or.inr ⟨rfl, rfl, w1, rc2, (2, pl (a + 1)), by rw [← eB]; exact u6 ft F21, fun ct hl => ?_⟩⟩
    rcases (ct21 ct).fnd wt21 (by rw [hl]; exact hw21) e4 w1 with ⟨q1, -⟩ | ⟨i, e, -, -, q3, -⟩
    · rw [hl] at q1
      rcases hx with ⟨u, -⟩ | ⟨i, u, hi⟩
      · exact absurd u (by omega)
      · exact absurd hi.2.1 (q1 i hi.1)
    · exact ⟨fun z => absurd (q3.symm.trans z) (by simp), fun _ => rfl⟩
theorem x_TR_readName {l1 : Int} (i1 : i32 l1) (h : TX M z q w T A B D N C n p O P K Ab Be Cm V F ns sf ef c cnt L) (ha : mI M (q + 1) 2 = a) (han : a < n) (wt : WTq M T A B D n W pl nq sm) (hF : FT M (q + 1) ft) (hR : Rc W [50] 0 (1 :: zr) (a + 1)) : Ci G y_TR_readName (d + 2) [vr q, vi l1] M (fun x M' => rnmQ M z q w T A B D N C n p O P K Ab Be Cm V F ns sf ef c cnt L a l1 x M' ∧ rnV W pl sm M q p c a nms (fst9 ft (if l1 = 0 then (0, 0) else (5, pl a))) zr x M') := by
  have ok := h.1.1.1
  obtain ⟨t0, t1, t2, t3, t4, t5⟩ := h.1.2.1
  have k4 := h.1.1.2.1.1
  refine k_TR_readName ok i1 ⟨fun y => x_rn19 (fun z => z) h txF.refl nmF.refl (fun u => absurd y u) ha han wt (by rw [if_pos y]; exact hF.none) hR, fun y => ?_⟩
  rw [t1]
  refine ⟨t0, k4, (s_RR_here h.1.1 ha (by omega)).mono (fun x6 M5 k => ?_)⟩
  obtain ⟨e5, ex6, x0, x1⟩ := k
  subst e5
  refine ⟨i32s (by omega) (by omega), ok, k4, (x_tx_note (x := 5) (i32s (by omega) (by omega)) (by omega) (i32s (by omega) (by omega)) h).mono (fun M9 kk => ?_)⟩
  obtain ⟨o9, h9, x9, u3, u4, u5, u6⟩ := kk
  have eB : x6 = pl a := by rw [ex6]; exact (wt.1 a (by omega)).2.2
  have F9 := u6 ft hF
  rw [eB] at F9
  rw [if_neg y]
  refine ⟨o9, ?_⟩
  have key := x_rn19 (G := G) (d := d) (sm := sm) (nms := nms) (l1 := l1) (Mc := M5) (fun ct => ct.tx x9.2) h9 x9 ⟨fun i _ i3 i4 => u4 i i3 i4, fun i _ => by rw [u5 q (by omega)], fun b _ b2 => u5 b b2⟩ (fun _ => u3) (by rw [u4 2 (by decide) (by decide)]; exact ha) han (wt.fi h.1 x9.1) F9 hR
  exact key
end TXC
end
end
section
section
/-! The class's reader of texts, exactly: consts and formulas. -/
section TXD
variable {G : mG} {d z q w T A B D N C n p O P K Ab Be Cm V F c s L L' cnt Bn a d0 V1 F1 nw : Nat} {M0 M M' M1 M2 : mM} {ns ns' ns1 : Nat → Int} {sf ef sf' ef' : Nat → Nat} {H : Nat → Nat} {S R : Nat → Prop} {W pl nq : Nat → Int} {sm : Nat → Nat → Prop} {nms : List nm9} {ft : Int × Int} {zz zr : List Int}
theorem FT.un {r : Nat} {y : Int × Int} (h : FT M r (fst9 y (0, 0))) : FT M r y := by
  by_cases c : y.1 = 0
  · rw [show fst9 y (0, 0) = (0, 0) from if_pos c] at h
    exact ⟨by rw [h.1, c], fun z => absurd c z⟩
  · rw [show fst9 y (0, 0) = y from if_neg c] at h
    exact h
theorem ECq.to {E : Nat → Int} {Cf : Nat → Int × Int} {co : Int} (h : ECq M' (q + 1) p n W nq sm nms c co E Cf) (f : txE M q p O P s M') : ECq M (q + 1) p n W nq sm nms c co E Cf := by
  obtain ⟨h1, h2⟩ := h
  refine ⟨h1, fun ct hl => ?_⟩
  have k := h2 (ct.tx f) hl
  obtain ⟨-, -, f4, -⟩ := f
  rw [f4 7 (by omega) (by omega), f4 8 (by omega) (by omega)] at k
  exact k
theorem hz34 : ∀ j, lwx (W j) = 3 → Rf W [34, 50] j j := fun j hj => Rf.of (mst_tn (by decide) (fun u => by
  rw [← u] at hj
  exact absurd hj (by decide)))
/-- an item's last rule and its ';', exactly: the rule from word a on, the fault ft before it -/
def ndV (W pl nq : Nat → Int) (sm : Nat → Nat → Prop) (M : mM) (q p O P n c L a : Nat) (nms : List nm9) (co : Int) (ft : Int × Int) (x : Int) (M' : mM) : Prop := ∃ a' : Nat, mI M' (q + 1) 2 = a' ∧ ((x = 0 ∧ Rf W [50] 0 a') ∨ (x = 1 ∧ ∃ (e : Nat) (E : Nat → Int) (Cf : Nat → Int × Int) (L' : Nat), a' = e + 1 ∧ Eo W 6 a e ∧ W e = 34 ∧ Rc W [50] 0 [50] (e + 1) ∧ ECq M (q + 1) p n W nq sm nms c co E Cf ∧ mI M' q 8 = kdq W E 0 a e ∧ FT M' (q + 1) (fst9 ft (fl W E pl 0 a e)) ∧ mI M' p 2 = ((L' + 1 : Nat) : Int) ∧ mI M' O L' = 0 ∧ Cd W Cf pl (mI M' O) (mI M' P) 0 0 0 a e L L' ∧ txF M q p O P L M' ∧ mI M' q 3 = mI M q 3))
theorem x_nd_tail {l1 : Int} (f0 : FI (txS q p O P) M0 M) (h : TX M z q w T A B D N C n p O P K Ab Be Cm V F ns sf ef c cnt L) (ha : mI M (q + 1) 2 = ((a : Nat) : Int)) (han : a ≤ n) (hs : mI M p 2 = ((L : Nat) : Int)) (hsa : L ≤ a) (hd : mI M (q + 1) 5 = ((0 : Nat) : Int)) (nk : NK M (q + 1) A n (vco l1 V) F (nco l1 ns) c) (hn : mI M q 3 = ((nw : Nat) : Int) ∧ nw < n ∧ mI M A nw = 2) (hY : 60 ≤ F → mI M (q + 1) 3 ≠ 0) (wt : WTq M T A B D n W pl nq sm) (hF : FT M (q + 1) ft) (hR : Rc W [50] 0 [61, 34, 50] a) : Ci G y_TR_readItemRule (d + 5) [vr q, vi 0, vi 0] M (fun x32 M31 => i32 x32 ∧ mOk M31 ∧ (((x32 = 0) → (ndQ M0 z q w T A B D N C n p O P K Ab Be Cm V F ns sf ef c cnt L l1 0 M31 ∧ ndV W pl nq sm M q p O P n c L a nms (mI M (q + 1) 6) ft 0 M31)) ∧ (¬ (x32 = 0) → (mK M31 q = 3 ∧ mK M31 (mR M31 q 0) = 4 ∧ Ci G y_RR_isTruth (d + 5) [vr (mR M31 q 0)] M31 (fun x39 M38 => i32 x39 ∧ mOk M38 ∧ (mK M38 q = 3 ∧ (x39 = 0 ∨ x39 = 1) ∧ ∀ M43, M43 = mUI M38 q 8 x39 → mK M43 (mR M43 q 0) = 4 ∧ Ci G y_RR_accept (d + 5) [vr (mR M43 q 0), vi 35] M43 (fun x47 M46 => i32 x47 ∧ mOk M46 ∧ ((x47 = 0 ∨ x47 = 1) ∧ ndQ M0 z q w T A B D N C n p O P K Ab Be Cm V F ns sf ef c cnt L l1 x47 M46 ∧ ndV W pl nq sm M q p O P n c L a nms (mI M (q + 1) 6) ft x47 M46)))))))) := by
  obtain ⟨⟨np0, np1, -, -⟩, ⟨nO0, nO1, -, -, -⟩, nP0, nP1, -, -, -⟩ := h.1.ne
  obtain ⟨q01, q10, q210, q211, -⟩ := q_ne q
  refine (x_TR_readItemRule (k := 0) (d0 := 0) (nms := nms) (ft := ft) (zz := [34, 50]) (by omega) (i32s (by omega) (by omega)) h ha han hs (Nat.le_refl _) hsa hd (by omega) nk wt hF (by rw [hd]; rfl) hz34 hR).mono (fun x32 M31 k => ?_)
  clear nk
  obtain ⟨⟨h31, x31, ⟨-, q31, t31⟩, k31⟩, -, E, Cf, ec, a9, ea9, iv⟩ := k
  have i32' : i32 x32 := by
    clear h h31 x31 t31
    rcases k31 with u | u <;> rw [u.1] <;> exact ⟨by decide, by decide⟩
  refine ⟨i32', h31.1.1.1, fun y => ?_, fun y => ?_⟩
  · obtain ⟨-, u⟩ := k31.resolve_right (fun u => by rw [y] at u; exact absurd u.1 (by decide))
    refine ⟨⟨f0.trans x31.1, Or.inl ⟨rfl, h31, u⟩⟩, a9, ea9, Or.inl ⟨rfl, ?_⟩⟩
    rcases iv with ⟨-, iv⟩ | ⟨iv, -⟩
    · exact iv
    · rw [y] at iv; exact absurd iv (by decide)
  obtain ⟨-, e, H, a', cd, p31, a31, aa, an, ea, d31⟩ := k31.resolve_left (fun u => y u.1)
  clear k31
  obtain ⟨-, L9, v1, v2, v3, v4, v5, v6, v7⟩ := iv.resolve_left (fun u => y u.1)
  have ea9' : a' = a9 := by rw [a31] at ea9; omega
  subst ea9'
  have v5 : FT M31 (q + 1) (fst9 ft (fl W E pl 0 a a')) := by
    unfold kft at v5
    rw [if_pos (Or.inl rfl)] at v5
    exact v5.un
  have wt31 : WTq M31 T A B D n W pl nq sm := wt.fi h.1 x31.1
  rw [h31.1.2.1.2.1]
  refine ⟨h31.1.2.1.1, h31.1.1.2.1.1, (x_RR_isTruth h31.1.1 h31.2.1.2.2.2).mono (fun x39 M38 k => ?_)⟩
  obtain ⟨e38, hx39, ex39⟩ := k
  subst e38
  have i39 : i32 x39 := m_b32 hx39
  refine ⟨i39, h31.1.1.1, h31.1.2.1.1, hx39, fun M43 e43 => ?_⟩
  obtain ⟨h43, x43, g43⟩ := tx_ui h31 i39 e43 (Or.inl rfl)
  have gg : ∀ b, b ≠ q → mI M43 b = mI M38 b := fun b hb => by
    funext i
    rw [g43, if_neg (fun u => hb u.1)]
  rw [h43.1.2.1.2.1]
  refine ⟨h43.1.1.2.1.1, (x_tx_accept (x := 35) (i32s (by omega) (by omega)) (by omega) h43 (by rw [gg _ q10]; exact a31) an).mono (fun x47 M46 k => ?_)⟩
  obtain ⟨i47, o46, hx47, h46, x46, k46, r46, b46, n46⟩ := k
  have wt43 : WTq M43 T A B D n W pl nq sm := wt31.fi h31.1 x43.1
  refine ⟨i47, o46, hx47, ?_⟩
  rcases k46 with ⟨e1, eA, a46, an46⟩ | ⟨e1, e2⟩
  · have w34 : W a' = 34 := (wt43.is (by omega) (by omega) (by omega)).mp eA
    have rc := rc_t v7 w34 (by decide)
    have key : ndV W pl nq sm M q p O P n c L a nms (mI M (q + 1) 6) ft x47 M46 := by
      refine ⟨a' + 1, a46, Or.inr ⟨e1, a', E, Cf, L9, rfl, v3, w34, rc, ec, ?_, ?_, ?_, ?_, ?_, (x31.trans x43).trans x46, by rw [b46 q q01, g43, if_neg (fun u => absurd u.2 (by decide)), q31]⟩⟩
      · rw [b46 q q01, g43, if_pos ⟨rfl, rfl⟩, ex39]; exact v4
      · exact v5.same (by rw [r46 3 (by decide), gg _ q10]) (by rw [r46 4 (by decide), gg _ q10])
      · rw [b46 p np1, gg p np0]; exact v1
      · rw [b46 O nO1, gg O nO0]; exact v2
      · exact v6.cg (fun t _ _ => ⟨by rw [b46 O nO1, gg O nO0], by rw [b46 P nP1, gg P nP0]⟩)
    refine ⟨?_, key⟩
    refine ⟨((f0.trans x31.1).trans x43.1).trans x46.1, Or.inr ⟨e1, h46, fun y60 => x46.2.2.1 (x43.2.2.1 (x31.2.2.1 (hY y60))), e, a' + 1, nw, H, ?_, ?_, a46, an46, Nat.succ_le_succ ea, ?_, ?_, hn.2.1, ?_, ?_, ?_⟩⟩
    · exact cd.cg (fun i _ => by rw [b46 O nO1, gg O nO0]) (fun i _ => by rw [b46 P nP1, gg P nP0])
    · rw [b46 p np1, gg p np0]; exact p31
    · rw [r46 5 (by decide), gg _ q10, d31]; exact hd
    · rw [b46 q q01, g43, if_neg (fun u => absurd u.2 (by decide)), q31]; exact hn.1
    · rw [(h43.1.words x46.1).1, (h31.1.words x43.1).1, (h.1.words x31.1).1]; exact hn.2.2
    · rw [b46 q q01, g43, if_pos ⟨rfl, rfl⟩]; exact hx39
    · rw [b46 _ q211, gg _ q210, t31, if_pos rfl]
  · rw [e2]
    exact ⟨⟨(f0.trans x31.1).trans x43.1, Or.inl ⟨e1, h43, a', by rw [gg _ q10]; exact a31, an⟩⟩, a', by rw [gg _ q10]; exact a31, Or.inl ⟨e1, rf_t v7 (fun u => n46 e1 ((wt43.is (by omega) (by omega) (by omega)).mpr u)) (by decide)⟩⟩
/-- a const or formula, exactly: its first word a -/
def nmV (W pl nq : Nat → Int) (sm : Nat → Nat → Prop) (M : mM) (q p O P n c F L a : Nat) (nms : List nm9) (co : Int) (ft : Int × Int) (x : Int) (M' : mM) : Prop := ∃ a' : Nat, mI M' (q + 1) 2 = a' ∧ ((x = 0 ∧ Rf W [50] 0 a') ∨ (x = 1 ∧ (W (a + 1) = 1 ∧ W (a + 2) = 23) ∧ ∃ (e : Nat) (E : Nat → Int) (Cf : Nat → Int × Int) (L' : Nat) (f2 : Int × Int), a' = e + 1 ∧ Eo W 6 (a + 3) e ∧ W e = 34 ∧ Rc W [50] 0 [50] (e + 1) ∧ ECq M (q + 1) p n W nq sm nms c co E Cf ∧ mI M' q 8 = kdq W E 0 (a + 3) e ∧ (CT M (q + 1) p nms → nms.length = c → knf sm pl nms (a + 1) f2) ∧ FT M' (q + 1) (fst9 (fst9 (fst9 ft (if F < 60 then (0, 0) else (5, pl a))) f2) (fl W E pl 0 (a + 3) e)) ∧ mI M' p 2 = ((L' + 1 : Nat) : Int) ∧ mI M' O L' = 0 ∧ Cd W Cf pl (mI M' O) (mI M' P) 0 0 0 (a + 3) e L L' ∧ txF M q p O P L M' ∧ mI M' q 3 = ((a + 1 : Nat) : Int)))
theorem x_TR_readNamed {l1 : Int} (h4 : l1 = 4 ∨ l1 = 7) (h : TX M z q w T A B D N C n p O P K Ab Be Cm V F ns sf ef c cnt L) (ha : mI M (q + 1) 2 = a) (han : a < n) (hs : mI M p 2 = L) (hsa : L ≤ a) (hd : mI M (q + 1) 5 = 0) (wt : WTq M T A B D n W pl nq sm) (hF : FT M (q + 1) ft) (hW : W a = 3 ∨ W a = 6) (hR : Rc W [50] 0 [50] a) : Ci G y_TR_readNamed (d + 6) [vr q, vi l1] M (fun x M' => ndQ M z q w T A B D N C n p O P K Ab Be Cm V F ns sf ef c cnt L l1 x M' ∧ nmV W pl nq sm M q p O P n c F L a nms (if l1 = 4 then 1 else 0) ft x M') := by
  obtain ⟨⟨np0, np1, -, -⟩, -, -⟩ := h.1.ne
  obtain ⟨q01, q10, q210, q211, -⟩ := q_ne q
  have ok := h.1.1.1
  have rc1 : Rc W [50] 0 [1, 23, 61, 34, 50] (a + 1) := by
    refine (hR.trans (Rc.one (mst_n (by decide) (by decide) (ys := [51, 34, 50]) (t := 1) ?_ (Or.inl (by decide))))).trans (Rc.one (mst_n (r := [34, 50]) (by decide) (by decide) (ys := [1, 23, 61]) (t := 0) rfl (Or.inl (by decide))))
    rw [ex_50]
    unfold ex50
    rw [if_neg (by omega), if_pos hW]
  obtain ⟨t0, t1, t2, t3, t4, t5⟩ := h.1.2.1
  refine k_TR_readNamed ok (i32s (by omega) (by omega)) ⟨t0, fun v3 e3 => ?_⟩
  have b3 : v3 = 0 ∨ v3 = 1 := by rw [e3]; split <;> omega
  rw [t1]
  refine ⟨h.1.1.2.1.1, fun M9 e9 => ?_⟩
  obtain ⟨h9, x9, g9⟩ := tx_ui h (m_b32 b3) e9 (Or.inr (Or.inr (Or.inr (Or.inl ⟨rfl, Or.inr (Or.inr rfl)⟩))))
  rw [h9.1.2.1.2.2.2.1]
  refine ⟨h9.1.1.2.2.2.2.1.1, fun v13 e13 => ?_⟩
  have b13 : v13 = 0 ∨ v13 = 1 := by rw [e13]; split <;> omega
  have f9 := h9.2.1.2.1.1
  have y13 : 60 ≤ F → v13 ≠ 0 := fun y => by rw [e13, if_neg (by omega)]; decide
  refine (x_TR_readName (a := a) (nms := nms) (m_b32 b13) h9 (by rw [g9, if_neg (fun u => absurd u.2 (by decide))]; exact ha) han (wt.fi h.1 x9.1) (hF.same (by rw [g9, if_neg (fun u => absurd u.2 (by decide))]) (by rw [g9, if_neg (fun u => absurd u.2 (by decide))])) rc1).mono (fun x19 M18 k => ?_)
  obtain ⟨⟨h18, x18, n18, y18, k18⟩, a9, ea9, rv⟩ := k
  have wt18 : WTq M18 T A B D n W pl nq sm := (wt.fi h.1 x9.1).fi h9.1 x18.1
  have ev13 : (if v13 = 0 then ((0 : Int), (0 : Int)) else (5, pl a)) = if F < 60 then (0, 0) else (5, pl a) := by
    rw [e13, f9]
    by_cases u : F < 60
    · rw [if_pos u, if_pos (by omega)]
    · rw [if_neg u, if_neg (by omega)]
  rw [ev13] at rv
  have i19 : i32 x19 := by rcases k18 with u | u <;> rw [u.1] <;> exact ⟨by decide, by decide⟩
  refine ⟨i19, h18.1.1.1, fun y => ?_, fun y => ?_⟩
  · obtain ⟨-, u⟩ := k18.resolve_right (fun u => by rw [y] at u; exact absurd u.1 (by decide))
    refine ⟨⟨x9.1.trans x18.1, Or.inl ⟨rfl, h18, u⟩⟩, a9, ea9, Or.inl ⟨rfl, ?_⟩⟩
    rcases rv with ⟨-, rv⟩ | ⟨rv, -⟩
    · exact rv
    · rw [y] at rv; exact absurd rv (by decide)
  obtain ⟨-, a18, a2n, q18, A18⟩ := k18.resolve_left (fun u => y u.1)
  clear k18
  obtain ⟨-, ea2, w1, rc2, f2, F18, kn⟩ := rv.resolve_left (fun u => y u.1)
  have kn : CT M (q + 1) p nms → nms.length = c → knf sm pl nms (a + 1) f2 := fun ct hl => kn (ct.tx x9.2) hl
  rw [h18.1.2.1.2.1]
  refine ⟨h18.1.2.1.1, h18.1.1.2.1.1, (x_tx_accept (x := 24) (i32s (by omega) (by omega)) (by omega) h18 a18 a2n).mono (fun x26 M25 k => ?_)⟩
  obtain ⟨i26, o25, -, h25, x25, k25, r25, b25, n25⟩ := k
  refine ⟨i26, o25, fun y => ?_, fun y => ?_⟩
  · have e := (k25.resolve_left (fun u => by rw [y] at u; exact absurd u.1 (by decide))).2
    rw [e]
    exact ⟨⟨x9.1.trans x18.1, Or.inl ⟨rfl, h18, _, a18, a2n⟩⟩, a + 2, a18, Or.inl ⟨rfl, rf_t rc2 (fun u => n25 y ((wt18.is (by omega) (by omega) (by omega)).mpr u)) (by decide)⟩⟩
  obtain ⟨-, eA, a25, a3n⟩ := k25.resolve_right (fun u => y u.1)
  clear k25
  have w23 : W (a + 2) = 23 := (wt18.is (by omega) (by omega) (by omega)).mp eA
  have rc3 := rc_t rc2 w23 (by decide)
  have wt25 : WTq M25 T A B D n W pl nq sm := wt18.fi h18.1 x25.1
  have F25 : FT M25 (q + 1) (fst9 (fst9 ft (if F < 60 then (0, 0) else (5, pl a))) f2) := F18.same (r25 3 (by decide)) (r25 4 (by decide))
  have c25 : mI M25 (q + 1) 6 = v3 := by rw [r25 6 (by decide), n18.1 6 (by decide) (by decide) (by decide), g9, if_pos ⟨rfl, rfl⟩]
  have p25 : mI M25 p 2 = L := by rw [b25 p np1, n18.2.2 p np0 np1, g9, if_neg (fun u => np1 u.1)]; exact hs
  have d25 : mI M25 (q + 1) 5 = ((0 : Nat) : Int) := by rw [r25 5 (by decide), n18.1 5 (by decide) (by decide) (by decide), g9, if_neg (fun u => absurd u.2 (by decide))]; exact hd
  have nk : NK M25 (q + 1) A n (vco l1 V) F (nco l1 ns) c := by
    unfold vco nco
    by_cases y4 : l1 = 4
    · rw [if_pos y4, if_pos y4]
      rw [if_pos y4] at e3
      exact h25.2.1.2.2.1.nkc (by rw [c25, e3]; decide)
    · rw [if_neg y4, if_neg y4]
      exact h25.2.1.2.2.1.nk
  refine ⟨h25.1.2.1.1, (x_nd_tail (nms := nms) ((x9.1.trans x18.1).trans x25.1) h25 a25 a3n p25 (by omega) d25 nk ⟨by rw [b25 q q01]; exact q18, by omega, by rw [(h18.1.words x25.1).1]; exact A18⟩ (fun y => x25.2.2.1 (y18 (y13 y))) wt25 F25 rc3).mono (fun x32 M31 k => ?_)⟩
  have e6 : mI M25 (q + 1) 6 = if l1 = 4 then 1 else 0 := by rw [c25, e3]
  rw [e6] at k
  have up : ∀ {x : Int} {M9 : mM}, ndV W pl nq sm M25 q p O P n c L (a + 3) nms (if l1 = 4 then 1 else 0) (fst9 (fst9 ft (if F < 60 then (0, 0) else (5, pl a))) f2) x M9 → nmV W pl nq sm M q p O P n c F L a nms (if l1 = 4 then 1 else 0) ft x M9 := fun {x M9} hv => by
    obtain ⟨a', e1, hv⟩ := hv
    refine ⟨a', e1, ?_⟩
    rcases hv with hv | ⟨hx, e, E, Cf, L9, j1, j2, j3, j4, j5, j6, j7, j8, j9, j10, j11, j12⟩
    · exact Or.inl hv
    · exact Or.inr ⟨hx, ⟨w1, w23⟩, e, E, Cf, L9, f2, j1, j2, j3, j4, ((j5.to x25.2).to x18.2).to x9.2, j6, kn, j7, j8, j9, j10, ((x9.trans x18).trans x25).trans j11, by rw [j12, b25 q q01]; exact q18⟩
  refine ⟨k.1, k.2.1, fun y => ?_, fun y => ?_⟩
  · obtain ⟨q1, q2⟩ := k.2.2.1 y
    exact ⟨q1, up q2⟩
  · obtain ⟨q1, q2, q3⟩ := k.2.2.2 y
    refine ⟨q1, q2, q3.mono (fun x39 M38 u => ⟨u.1, u.2.1, u.2.2.1, u.2.2.2.1, fun M43 e43 => ?_⟩)⟩
    obtain ⟨z1, z2⟩ := u.2.2.2.2 M43 e43
    exact ⟨z1, z2.mono (fun x47 M46 v => ⟨v.1, v.2.1, v.2.2.1, v.2.2.2.1, up v.2.2.2.2⟩)⟩
end TXD
end
section
/-! The class's reader of texts, exactly: the target. -/
section TXE
variable {G : mG} {d z q w T A B D N C n p O P K Ab Be Cm V F c s L L' cnt Bn a d0 V1 F1 nw : Nat} {M0 M M' M1 M2 Mc : mM} {ns ns' ns1 : Nat → Int} {sf ef sf' ef' : Nat → Nat} {H : Nat → Nat} {S R : Nat → Prop} {W pl nq : Nat → Int} {sm : Nat → Nat → Prop} {nms : List nm9} {ft : Int × Int} {zz zr : List Int}
/-- names and counts stay -/
def tgK (q p : Nat) (M M' : mM) : Prop := mI M' (q + 1) 19 = mI M (q + 1) 19 ∧ (∀ i, 6 ≤ i → i ≤ 9 → mI M' (q + 1 + i) = mI M (q + 1 + i)) ∧ (∀ i, i ≠ 2 → i ≠ 11 → mI M' p i = mI M p i) ∧ mI M' (p + 6) = mI M (p + 6) ∧ mI M' (p + 7) = mI M (p + 7)
theorem tgK.trans (h : tgK q p M M1) (k : tgK q p M1 M2) : tgK q p M M2 := ⟨k.1.trans h.1, fun i i6 i9 => (k.2.1 i i6 i9).trans (h.2.1 i i6 i9), fun i i2 i1 => (k.2.2.1 i i2 i1).trans (h.2.2.1 i i2 i1), k.2.2.2.1.trans h.2.2.2.1, k.2.2.2.2.trans h.2.2.2.2⟩
theorem tgK.tx (f : txE M q p O P s M') : tgK q p M M' := ⟨f.1 19 (by decide) (by decide) (by decide) (by decide) (by decide) (by decide) (by decide) (by decide), f.2.2.1, fun i i2 _ => f.2.2.2.1 i i2, f.2.2.2.2.1 6 (by decide) (by decide), f.2.2.2.2.1 7 (by decide) (by decide)⟩
theorem CT.tg (ct : CT M (q + 1) p nms) (k : tgK q p M M') : CT M' (q + 1) p nms := ct.cg k.1 (k.2.1 6 (by decide) (by decide)) (k.2.1 7 (by decide) (by decide)) (k.2.1 8 (by decide) (by decide)) (k.2.1 9 (by decide) (by decide)) k.2.2.2.1 k.2.2.2.2
/-- a target's orders lie from the code's end on -/
def tgD (W pl : Nat → Int) (Cf : Nat → Int × Int) (p O P L a e : Nat) (M M' : mM) : Prop := mI M' p 11 = ((L : Nat) : Int) ∧ (∀ i, 3 ≤ i → i ≤ 15 → mI M' (p + i) = mI M (p + i)) ∧ ∃ L' : Nat, mI M' p 2 = ((L' + 1 : Nat) : Int) ∧ mI M' O L' = 0 ∧ Cd W Cf pl (mI M' O) (mI M' P) 0 0 0 (a + 1) e L L' ∧ cdE O P L M M'
/-- a target, exactly: the rule from word a + 1 on, the fault ft before it -/
def tgV (W pl nq : Nat → Int) (sm : Nat → Nat → Prop) (M : mM) (q p O P n c L a : Nat) (nms : List nm9) (ft : Int × Int) (x : Int) (M' : mM) : Prop := ∃ a' : Nat, mI M' (q + 1) 2 = a' ∧ ((x = 0 ∧ Rf W [50] 0 a') ∨ (x = 1 ∧ mI M' p 11 ≠ -1 ∧ ∃ (e : Nat) (E : Nat → Int) (Cf : Nat → Int × Int), a' = e + 1 ∧ Eo W 6 (a + 1) e ∧ W e = 34 ∧ Rc W [50] 0 [50] (e + 1) ∧ ECq M (q + 1) p n W nq sm nms c 0 E Cf ∧ FT M' (q + 1) (fst9 (fst9 ft (fl W E pl 0 (a + 1) e)) (kft (kdq W E 0 (a + 1) e = 1) (pl (a + 1)))) ∧ tgK q p M M' ∧ tgD W pl Cf p O P L a e M M'))
theorem x_rt8 (f0 : FI (txS q p O P) M0 M) (h : TX M z q w T A B D N C n p O P K Ab Be Cm V F ns sf ef c cnt L) (ha : mI M (q + 1) 2 = a) (han : a < n) (hs : mI M p 2 = L) (hsa : L ≤ a) (hd : mI M (q + 1) 5 = 0) (e8 : M1 = mUI M (q + 1) 2 ((a : Int) + 1)) (e11 : M2 = mUI M1 (q + 1) 6 0) (hec : ∀ {E : Nat → Int} {Cf : Nat → Int × Int}, ECq M2 (q + 1) p n W nq sm nms c 0 E Cf → ECq Mc (q + 1) p n W nq sm nms c 0 E Cf) (hkm : tgK q p Mc M2) (hk2 : txF Mc q p O P L M2) (wt : WTq M T A B D n W pl nq sm) (hF : FT M (q + 1) ft) (hW : W a = 11) (hR : Rc W [50] 0 [50] a) : mOk M2 ∧ mK M1 (mR M1 q 0) = 4 ∧ mR M1 q 0 = q + 1 ∧ Ci G y_TR_readItemRule (d + 5) [vr q, vi 0, vi 2] M2 (fun x14 M13 => i32 x14 ∧ mOk M13 ∧ (((x14 = 0) → (tgQ M0 z q w T A B D N C n p O P K Ab Be Cm V F ns sf ef c cnt L 0 M13 ∧ tgV W pl nq sm Mc q p O P n c L a nms ft 0 M13)) ∧ (¬ (x14 = 0) → (mK M13 q = 3 ∧ mK M13 (mR M13 q 5) = 30 ∧ ((0 : Int) ≤ 0 ∧ 0 < (mN M13 (mR M13 q 5) : Int)) ∧ mK M13 (mR M13 q 2) = 6 ∧ ∀ M22, M22 = mUI M13 (mR M13 q 2) 11 (mI M13 (mR M13 q 5) 0) → mK M22 (mR M22 q 0) = 4 ∧ Ci G y_RR_accept (d + 5) [vr (mR M22 q 0), vi 35] M22 (fun x26 M25 => i32 x26 ∧ mOk M25 ∧ ((x26 = 0 ∨ x26 = 1) ∧ tgQ M0 z q w T A B D N C n p O P K Ab Be Cm V F ns sf ef c cnt L x26 M25 ∧ tgV W pl nq sm Mc q p O P n c L a nms ft x26 M25)))))) := by
  have ap := h.1.apart
  have qp := h.1.2.2.2.2.2.1.2.1
  have ok := h.1.1.1
  have rc1 : Rc W [50] 0 [61, 34, 50] (a + 1) := by
    refine hR.trans (Rc.one (mst_n (by decide) (by decide) (ys := [61, 34, 50]) (t := 1) ?_ (Or.inl (by decide))))
    rw [ex_50]
    unfold ex50
    rw [if_neg (by omega), if_neg (by omega), if_neg (by omega), if_neg (by omega), if_pos hW]
  have hN : n ≤ 16384 := by have := h.1.1.2.2.2.1.2.2.1; have := h.1.1.2.2.2.1.1.2.2.2.2.2.2.1; omega
  obtain ⟨h1, x1, g1⟩ := tx_ui h ⟨by omega, by omega⟩ e8 (Or.inr (Or.inr (Or.inr (Or.inl ⟨rfl, Or.inl rfl⟩))))
  obtain ⟨h2, x2, g2⟩ := tx_ui h1 (i32s (by omega) (by omega)) e11 (Or.inr (Or.inr (Or.inr (Or.inl ⟨rfl, Or.inr (Or.inr rfl)⟩))))
  have gb : ∀ b i, b ≠ q + 1 → mI M2 b i = mI M b i := fun b i hb => by rw [g2, if_neg (by omega), g1, if_neg (by omega)]
  have a2 : mI M2 (q + 1) 2 = ((a + 1 : Nat) : Int) := by rw [g2, if_neg (by omega), g1, if_pos ⟨rfl, rfl⟩]; omega
  have d2 : mI M2 (q + 1) 5 = ((0 : Nat) : Int) := by rw [g2, if_neg (by omega), g1, if_neg (by omega)]; exact hd
  refine ⟨h2.1.1.1, by rw [h1.1.2.1.2.1]; exact h1.1.1.2.1.1, h1.1.2.1.2.1, (x_TR_readItemRule (k := 0) (s := L) (d0 := 0) (nms := nms) (ft := ft) (zz := [34, 50]) (by omega) (i32s (by omega) (by omega)) h2 a2 (by omega) (by rw [gb p 2 (by omega)]; exact hs) (Nat.le_refl _) (by omega) d2 (by omega) h2.2.1.2.2.1.nk ((wt.fi h.1 x1.1).fi h1.1 x2.1) (hF.same (by rw [g2, if_neg (by omega), g1, if_neg (by omega)]) (by rw [g2, if_neg (by omega), g1, if_neg (by omega)])) (by rw [d2]; rfl) hz34 rc1).mono (fun x14 M13 k => ?_)⟩
  obtain ⟨⟨h13, x13, ⟨c13, q13, t13⟩, k13⟩, -, E, Cf, ec, a9, ea9, iv⟩ := k
  have e26 : mI M2 (q + 1) 6 = 0 := by rw [g2, if_pos ⟨rfl, rfl⟩]
  rw [e26] at ec
  have wt13 : WTq M13 T A B D n W pl nq sm := ((wt.fi h.1 x1.1).fi h1.1 x2.1).fi h2.1 x13.1
  have i14 : i32 x14 := by rcases k13 with u | u <;> rw [u.1] <;> exact i32s (by omega) (by omega)
  refine ⟨i14, h13.1.1.1, fun y => ?_, fun y => ?_⟩
  · obtain ⟨-, u⟩ := k13.resolve_right (fun u => by have := u.1; omega)
    refine ⟨⟨((f0.trans x1.1).trans x2.1).trans x13.1, Or.inl ⟨rfl, L, h13, u⟩⟩, a9, ea9, Or.inl ⟨rfl, ?_⟩⟩
    rcases iv with ⟨-, iv⟩ | ⟨iv, -⟩
    · exact iv
    · rw [y] at iv; exact absurd iv (by decide)
  obtain ⟨-, e, H, a', cd, p13, a13, aa, an, ea, d13⟩ := k13.resolve_left (fun u => y u.1)
  clear k13
  obtain ⟨-, L9, v1, v2, v3, v4, v5, v6, v7⟩ := iv.resolve_left (fun u => y u.1)
  clear iv
  have ea9' : a' = a9 := by rw [a13] at ea9; omega
  subst ea9'
  have v5 : FT M13 (q + 1) (fst9 (fst9 ft (fl W E pl 0 (a + 1) a')) (kft (kdq W E 0 (a + 1) a' = 1) (pl (a + 1)))) := by
    rw [show ((2 : Int) = 0 ∨ kdq W E 0 (a + 1) a' = if (2 : Int) = 2 then 1 else 0) = (kdq W E 0 (a + 1) a' = 1) from propext ⟨fun u => u.resolve_left (by decide), fun u => Or.inr u⟩] at v5
    exact v5
  obtain ⟨⟨np0, np1, np21, -⟩, ⟨nO0, nO1, -, -, nOp⟩, nP0, nP1, -, -, nPp⟩ := h13.1.ne
  have pn : ∀ i, 3 ≤ i → p + i ≠ p := fun i hi => by omega
  have qn : ∀ i, i ≤ 10 → q + i ≠ p := fun i hi => by omega
  obtain ⟨t0, t1, t2, t3, t4, t5⟩ := h13.1.2.1
  obtain ⟨s1, s2, s3, s4⟩ := h13.1.2.2.1
  rw [t3, t4, s3, t13, if_pos rfl]
  refine ⟨t0, s1, ⟨by omega, by omega⟩, h13.1.1.2.2.2.2.1.1, fun M22 e22 => ?_⟩
  have f22 : FI (txS q p O P) M13 M22 := by rw [e22]; exact FI.ui (Or.inr (Or.inr (Or.inr (Or.inl rfl))))
  have g22 : ∀ b i, mI M22 b i = if b = p ∧ i = 11 then (L : Int) else mI M13 b i := fun b i => mI_ui b i e22
  have gg : ∀ b, b ≠ p → mI M22 b = mI M13 b := fun b hb => by
    funext i
    rw [g22, if_neg (fun u => hb u.1)]
  have o22 : mOk M22 := by rw [e22]; exact mOk_UI h13.1.1.1 ⟨by omega, by omega⟩
  have hse : L ≤ e := cd.2.2.2.2.2
  have h22 : TX M22 z q w T A B D N C n p O P K Ab Be Cm V F ns sf ef c cnt (e + 1) := by
    refine ⟨h13.1.fi o22 f22, ?_, ?_⟩
    · obtain ⟨u1, u2, u3, u4⟩ := h13.2.1
      refine ⟨by rw [g22, if_neg (by omega)]; exact u1, by rw [g22, if_neg (by omega)]; exact u2, ?_, fun j => by rw [gg _ (by omega)]; exact u4 j⟩
      unfold TN at u3 ⊢
      rw [(h13.1.words f22).1, gg _ (by omega), gg _ (by omega), gg _ (by omega), gg _ (by omega), gg _ (by omega)]
      exact u3
    · obtain ⟨u1, u2⟩ := h13.2.2
      refine ⟨by rw [g22, if_neg (by omega)]; exact u1, fun y0 => ?_⟩
      rw [gg _ (qn 1 (by decide))] at y0
      obtain ⟨u, eu, gu⟩ := u2 y0
      obtain ⟨v1, v2, v3, v4, v5, v6, v7⟩ := gu.longer (L' := e + 1) (Nat.le_succ_of_le hse)
      have cg : ∀ {s h : Nat}, PC M13 O P V F ns ef (e + 1) s h → PC M22 O P V F ns ef (e + 1) s h := fun hc => hc.cg (fun i _ => by rw [gg O nOp]) (fun i _ => by rw [gg P nPp])
      refine ⟨u, by rw [gg _ (pn _ (by decide))]; exact eu, v1.cg (fun i _ => by rw [gg O nOp]) (fun i _ => by rw [gg P nPp]) (fun i _ => by rw [gg _ (pn _ (by decide))]) (fun i _ => by rw [gg _ (pn _ (by decide))]), Or.inr ⟨L, by rw [g22, if_pos ⟨rfl, rfl⟩], cg ⟨e, H, F, cd, Nat.lt_succ_self _, Nat.le_refl _, fun y hy h7 => ((gu.1 y hy).2 h7).2.2.1⟩⟩, fun j hj => ?_, by rw [gg _ (pn _ (by decide))]; exact v4, by rw [gg _ (pn _ (by decide))]; exact v5, by rw [gg _ (pn _ (by decide))]; exact v6, fun b hb => ?_⟩
      · obtain ⟨s, y1, y2⟩ := v3 j hj
        exact ⟨s, by rw [gg _ (pn _ (by decide))]; exact y1, cg y2⟩
      · obtain ⟨s1, s2, y1, y2, y3, y4⟩ := v7 b hb
        exact ⟨s1, s2, by rw [gg _ (pn _ (by decide))]; exact y1, cg y2, by rw [gg _ (pn _ (by decide))]; exact y3, cg y4⟩
  have a22 : mI M22 (q + 1) 2 = (a' : Int) := by rw [gg _ (by omega)]; exact a13
  rw [h22.1.2.1.2.1]
  refine ⟨h22.1.1.2.1.1, (x_tx_accept (x := 35) (i32s (by omega) (by omega)) (by omega) h22 a22 an).mono (fun x26 M25 k => ?_)⟩
  obtain ⟨i26, o25, hx26, h25, x25, k25, r25, b25, n25⟩ := k
  have wt22 : WTq M22 T A B D n W pl nq sm := wt13.fi h13.1 f22
  refine ⟨i26, o25, hx26, ?_⟩
  rcases k25 with ⟨e1, eA, a25, an25⟩ | ⟨e1, e2⟩
  · have w34 : W a' = 34 := (wt22.is (by omega) (by omega) (by omega)).mp eA
    have rc := rc_t v7 w34 (by decide)
    have key : tgV W pl nq sm Mc q p O P n c L a nms ft x26 M25 := by
      refine ⟨a' + 1, a25, Or.inr ⟨e1, by rw [b25 p (by first | (have h1 := qp; omega) | omega), g22, if_pos ⟨rfl, rfl⟩]; omega, a', E, Cf, rfl, v3, w34, rc, hec ec, v5.same (by rw [r25 3 (by decide), gg _ (by omega)]) (by rw [r25 4 (by decide), gg _ (by omega)]), ((hkm.trans (tgK.tx x13.2)).trans ⟨by rw [gg _ (by omega)], fun i _ i9 => gg _ (by omega), fun i _ i1 => by rw [g22, if_neg (fun u => i1 u.2)], gg _ (by omega), gg _ (by omega)⟩).trans (tgK.tx x25.2), ?_⟩⟩
      have xx := hk2.trans x13
      refine ⟨by rw [b25 p (by first | (have h1 := qp; omega) | omega), g22, if_pos ⟨rfl, rfl⟩], fun i i3 i15 => by rw [b25 _ (by omega), gg _ (by omega)]; exact xx.2.2.2.2.2.1 i i3 i15, L9, by rw [b25 p (by first | (have h1 := qp; omega) | omega), g22, if_neg (by omega)]; exact v1, by rw [b25 O (by first | (have h1 := ap.2.2.2.1; have h2 := ap.2.1; omega) | omega), gg O nOp]; exact v2, ?_, fun i hi => ?_⟩
      · exact v6.cg (fun t _ _ => ⟨by rw [b25 O (by first | (have h1 := ap.2.2.2.1; have h2 := ap.2.1; omega) | omega), gg O nOp], by rw [b25 P (by first | (have h1 := ap.2.2.2.2.1; have h2 := ap.2.2.1; omega) | omega), gg P nPp]⟩)
      · rw [b25 O (by first | (have h1 := ap.2.2.2.1; have h2 := ap.2.1; omega) | omega), gg O nOp, b25 P (by first | (have h1 := ap.2.2.2.2.1; have h2 := ap.2.2.1; omega) | omega), gg P nPp]
        exact xx.2.2.2.2.2.2 i hi
    refine ⟨?_, key⟩
    refine ⟨((((f0.trans x1.1).trans x2.1).trans x13.1).trans f22).trans x25.1, Or.inr ⟨e1, e + 1, a' + 1, h25, by rw [b25 p (by first | (have h1 := qp; omega) | omega), g22, if_neg (by omega)]; exact p13, a25, by omega, by omega, by rw [r25 5 (by decide), gg _ (by omega), d13, d2]; rfl⟩⟩
  · rw [e2]
    exact ⟨⟨(((f0.trans x1.1).trans x2.1).trans x13.1).trans f22, Or.inl ⟨e1, e + 1, h22, a', a22, an⟩⟩, a', a22, Or.inl ⟨e1, rf_t v7 (fun u => n25 e1 ((wt22.is (by omega) (by omega) (by omega)).mpr u)) (by decide)⟩⟩
theorem x_TR_readTarget (h : TX M z q w T A B D N C n p O P K Ab Be Cm V F ns sf ef c cnt L) (ha : mI M (q + 1) 2 = a) (han : a < n) (hs : mI M p 2 = L) (hsa : L ≤ a) (hd : mI M (q + 1) 5 = 0) (wt : WTq M T A B D n W pl nq sm) (hF : FT M (q + 1) ft) (hW : W a = 11) (hR : Rc W [50] 0 [50] a) : Ci G y_TR_readTarget (d + 6) [vr q] M (fun x M' => tgQ M z q w T A B D N C n p O P K Ab Be Cm V F ns sf ef c cnt L x M' ∧ tgV W pl nq sm M q p O P n c L a nms (fst9 ft (if mI M p 11 = -1 then (0, 0) else (4, pl a))) x M') := by
  have ap := h.1.apart
  have ok := h.1.1.1
  have hN : n ≤ 16384 := by have := h.1.1.2.2.2.1.2.2.1; have := h.1.1.2.2.2.1.1.2.2.2.2.2.2.1; omega
  obtain ⟨t0, t1, t2, t3, t4, t5⟩ := h.1.2.1
  refine k_TR_readTarget ok ?_
  rw [t1, t3, ha]
  refine ⟨t0, h.1.1.2.2.2.2.1.1, fun yt => ⟨h.1.1.2.1.1, ⟨by omega, by omega⟩, fun M8 e8 => ?_⟩, fun yt => ⟨h.1.1.2.1.1, (s_RR_here h.1.1 ha (by omega)).mono (fun x31 M30 k => ?_)⟩⟩
  · obtain ⟨h8, x8, g8⟩ := tx_ui h ⟨by omega, by omega⟩ e8 (Or.inr (Or.inr (Or.inr (Or.inl ⟨rfl, Or.inl rfl⟩))))
    have k4 := (s_rt8 h han e8).1
    have kr := (s_rt8 h han e8).2
    refine ⟨k4, fun M11 e11 => ?_⟩
    rw [kr] at e11
    obtain ⟨h11, x11, g11⟩ := tx_ui h8 (i32s (by omega) (by omega)) e11 (Or.inr (Or.inr (Or.inr (Or.inl ⟨rfl, Or.inr (Or.inr rfl)⟩))))
    rw [if_pos yt]
    exact (x_rt8 (Mc := M) (nms := nms) FI.refl h ha han hs hsa hd e8 e11 (fun k => (k.to x11.2).to x8.2) ((tgK.tx x8.2).trans (tgK.tx x11.2)) (x8.trans x11) wt hF.none hW hR).2.2.2
  · obtain ⟨e30, ex31, x0, x1⟩ := k
    subst e30
    refine ⟨i32s (by omega) (by omega), ok, h.1.1.2.1.1, (x_tx_note (x := 4) (i32s (by omega) (by omega)) (by omega) (i32s (by omega) (by omega)) h).mono (fun M34 kk => ?_)⟩
    obtain ⟨o34, h34, x34, u3, u4, u5, u6⟩ := kk
    have eB : x31 = pl a := by rw [ex31]; exact (wt.1 a (by omega)).2.2
    have F34 := u6 ft hF
    rw [eB] at F34
    rw [if_neg yt]
    have a34 : mI M34 (q + 1) 2 = a := by rw [u4 2 (by decide) (by decide)]; exact ha
    have p34 : mI M34 p 2 = L := by rw [u5 p (by have := h.1.2.2.2.2.2.1.2.1; omega)]; exact hs
    have d34 : mI M34 (q + 1) 5 = 0 := by rw [u4 5 (by decide) (by decide)]; exact hd
    rw [h34.1.2.1.2.1, a34]
    refine ⟨o34, h34.1.2.1.1, h34.1.1.2.1.1, ⟨by omega, by omega⟩, fun M8 e8 => ?_⟩
    have k4 := (s_rt8 h34 han e8).1
    have kr := (s_rt8 h34 han e8).2
    refine ⟨k4, fun M11 e11 => ?_⟩
    rw [kr] at e11
    obtain ⟨h8, x8, g8⟩ := tx_ui h34 ⟨by omega, by omega⟩ e8 (Or.inr (Or.inr (Or.inr (Or.inl ⟨rfl, Or.inl rfl⟩))))
    obtain ⟨h11, x11, g11⟩ := tx_ui h8 (i32s (by omega) (by omega)) e11 (Or.inr (Or.inr (Or.inr (Or.inl ⟨rfl, Or.inr (Or.inr rfl)⟩))))
    exact (x_rt8 (Mc := M30) (nms := nms) x34.1 h34 a34 han p34 hsa d34 e8 e11 (fun k => ((k.to x11.2).to x8.2).to x34.2) (((tgK.tx x34.2).trans (tgK.tx x8.2)).trans (tgK.tx x11.2)) ((x34.trans x8).trans x11) (wt.fi h.1 x34.1) F34 hW hR).2.2.2
end TXE
end
end
section
/-! The class's reader of texts, exactly: vars. -/
section TXF
variable {G : mG} {d z q w T A B D N C n p O P K Ab Be Cm V F c s s' L L' cnt Bn a d0 V1 F1 nw k b b' : Nat} {M0 M M' M1 M2 Mc : mM} {ns ns' ns1 : Nat → Int} {sf ef sf' ef' : Nat → Nat} {H : Nat → Nat} {S R : Nat → Prop} {W pl nq E : Nat → Int} {Cf : Nat → Int × Int} {sm : Nat → Nat → Prop} {nms : List nm9} {ft : Int × Int} {zz zr : List Int}
theorem fst9_as (x y z : Int × Int) : fst9 (fst9 x y) z = fst9 x (fst9 y z) := by
  unfold fst9
  by_cases c : x.1 = 0
  · rw [if_pos c, if_pos c]
  · rw [if_neg c, if_neg c, if_neg c]
/-- the fault of a rule that must be of the kind tr -/
noncomputable def vrf (W E pl : Nat → Int) (tr : Int) (x y : Nat) : Int × Int := fst9 (fl W E pl 0 x y) (kft (kdq W E 0 x y = tr) (pl x))
/-- the code of an item's rule k: the words x to y, below b -/
def rvQz (W pl : Nat → Int) (Cf : Nat → Int × Int) (q O P k x y b : Nat) (M' : mM) : Prop := ∃ s L' : Nat, mI M' (q + 21) k = (s : Int) ∧ mI M' O L' = 0 ∧ Cd W Cf pl (mI M' O) (mI M' P) 0 0 0 x y s L' ∧ L' < b ∧ mI M' (q + 22) k = pl x
theorem rvQz.cg {x y : Nat} (h : rvQz W pl Cf q O P k x y b M) (h21 : mI M' (q + 21) k = mI M (q + 21) k) (h22 : mI M' (q + 22) k = mI M (q + 22) k) (hO : ∀ i, i < b → mI M' O i = mI M O i ∧ mI M' P i = mI M P i) (hb : b ≤ b') : rvQz W pl Cf q O P k x y b' M' := by
  obtain ⟨s, L', h1, h2, h3, h4, h5⟩ := h
  exact ⟨s, L', by rw [h21]; exact h1, by rw [(hO L' h4).1]; exact h2, h3.cg (fun t _ t2 => hO t (by omega)), by omega, by rw [h22]; exact h5⟩
theorem irv_ft {l2 tr x : Int} {a' : Nat} (h : FT M' (q + 1) (fst9 (fst9 ft (fl W E pl 0 a a')) (kft (l2 = 0 ∨ kdq W E 0 a a' = (if l2 = 2 then 1 else 0)) (pl a)))) (hl : (l2 = 0 ∨ kdq W E 0 a a' = (if l2 = 2 then 1 else 0)) ↔ kdq W E 0 a a' = tr) : FT M' (q + 1) (fst9 ft (vrf W E pl tr a a')) := by
  rw [propext hl, fst9_as] at h
  exact h
theorem hz_t {y : Int} (hy : y < 18) : ∀ j, lwx (W j) = 3 → Rf W (y :: zr) j j := fun j hj => Rf.of (mst_tn (by omega) (fun u => by
  rw [← u] at hj
  unfold lwx at hj
  rw [if_neg (by omega), if_neg (by omega), if_neg (by omega), if_neg (by omega), if_neg (by omega), if_neg (by omega)] at hj
  exact absurd hj (by decide)))
theorem rc54 (h : W a ≠ 9) : Rc W (54 :: zr) a zr a := Rc.one (mst_n (by decide) (by decide) (ys := []) (t := 0) (by
  show ex54 (W a) = _
  unfold ex54
  rw [if_neg h]) (Or.inl (by decide)))
theorem hz54 : ∀ j, lwx (W j) = 3 → Rf W [54, 34, 50] j j := fun j hj => (rc54 (fun u => by
  rw [u] at hj
  exact absurd hj (by decide))).rf (hz34 j hj)
/-- the ';' -/
def enV (W : Nat → Int) (q p O P a : Nat) (M : mM) (x : Int) (M' : mM) : Prop := ∃ a' : Nat, mI M' (q + 1) 2 = a' ∧ ((x = 0 ∧ Rf W [50] 0 a') ∨ (x = 1 ∧ a' = a + 1 ∧ W a = 34 ∧ Rc W [50] 0 [50] (a + 1) ∧ (∀ b, b ≠ q + 1 → mI M' b = mI M b) ∧ (∀ i, i ≠ 2 → mI M' (q + 1) i = mI M (q + 1) i) ∧ txF M q p O P 0 M'))
theorem x_rv35 (f0 : FI (txS q p O P) M0 M) (h : TX M z q w T A B D N C n p O P K Ab Be Cm V F ns sf ef c cnt L) (hs : mI M p 2 = ((s : Nat) : Int)) (hLs : L ≤ s) (hsa : s ≤ a + 1) (ha : mI M (q + 1) 2 = ((a : Nat) : Int)) (han : a ≤ n) (hd : mI M (q + 1) 5 = 0) (hn : mI M q 3 = ((nw : Nat) : Int) ∧ nw < n ∧ mI M A nw = 2 ∧ mI M q 4 = ((L : Nat) : Int) ∧ (mI M q 8 = 0 ∨ mI M q 8 = 1) ∧ (12 ≤ V → mI M (q + 1) 3 ≠ 0)) (h8 : mI M q 8 = 0 → rvR M q O P F ns L s 0 ∧ rvR M q O P F ns L s 1) (h7 : mI M q 7 ≠ 0 → rvR M q O P F ns L s 2) (wt : WTq M T A B D n W pl nq sm) (hR : Rc W [50] 0 [34, 50] a) : Ci G y_RR_accept d [vr (q + 1), vi 35] M (fun x69 M68 => i32 x69 ∧ mOk M68 ∧ ((x69 = 0 ∨ x69 = 1) ∧ vaQ M0 z q w T A B D N C n p O P K Ab Be Cm V F ns sf ef c cnt L x69 M68 ∧ enV W q p O P a M x69 M68)) := by
  have ap := h.1.apart
  have qp := h.1.2.2.2.2.2.1.2.1
  refine (x_tx_accept (x := 35) (i32s (by omega) (by omega)) (by omega) h ha han).mono (fun x M' k => ?_)
  obtain ⟨i1, o1, hx, h1, x1, k1, r1, b1, m1⟩ := k
  refine ⟨i1, o1, hx, ?_⟩
  rcases k1 with ⟨e1, eA, a1, an1⟩ | ⟨e1, e2⟩
  · have w34 : W a = 34 := (wt.is han (by decide) (by decide)).mp eA
    refine ⟨?_, a + 1, a1, Or.inr ⟨e1, rfl, w34, rc_t hR w34 (by decide), b1, r1, x1.less (Nat.zero_le _)⟩⟩
    obtain ⟨n1, n2, n3, n4, n5, n6⟩ := hn
    refine ⟨f0.trans x1.1, Or.inr ⟨e1, h1, s, a + 1, nw, ⟨by rw [b1 p (by first | (have h1 := qp; omega) | omega)]; exact hs, hLs, by omega, a1, by omega, by rw [r1 5 (by decide)]; exact hd, by rw [b1 q (by omega)]; exact n1, n2, by rw [(h.1.words x1.1).1]; exact n3, by rw [b1 q (by omega)]; exact n4, by rw [b1 q (by omega)]; exact n5, fun y => by rw [r1 3 (by decide)]; exact n6 y⟩, fun y => ?_, fun y => ?_⟩⟩
    · rw [b1 q (by omega)] at y
      obtain ⟨u1, u2⟩ := h8 y
      exact ⟨u1.cg (by rw [b1 _ (by omega)]) (fun i _ => ⟨by rw [b1 O (by first | (have h1 := ap.2.2.2.1; have h2 := ap.2.1; omega) | omega)], by rw [b1 P (by first | (have h1 := ap.2.2.2.2.1; have h2 := ap.2.2.1; omega) | omega)]⟩) (Nat.le_refl _), u2.cg (by rw [b1 _ (by omega)]) (fun i _ => ⟨by rw [b1 O (by first | (have h1 := ap.2.2.2.1; have h2 := ap.2.1; omega) | omega)], by rw [b1 P (by first | (have h1 := ap.2.2.2.2.1; have h2 := ap.2.2.1; omega) | omega)]⟩) (Nat.le_refl _)⟩
    · rw [b1 q (by omega)] at y
      exact (h7 y).cg (by rw [b1 _ (by omega)]) (fun i _ => ⟨by rw [b1 O (by first | (have h1 := ap.2.2.2.1; have h2 := ap.2.1; omega) | omega)], by rw [b1 P (by first | (have h1 := ap.2.2.2.2.1; have h2 := ap.2.2.1; omega) | omega)]⟩) (Nat.le_refl _)
  · rw [e2]
    exact ⟨⟨f0, Or.inl ⟨e1, h, a, ha, han⟩⟩, a, ha, Or.inl ⟨e1, rf_t hR (fun u => m1 e1 ((wt.is han (by decide) (by decide)).mpr u)) (by decide)⟩⟩
/-- a var's end, exactly: from its init at word a on; s: where the code stands -/
def inV (W pl nq : Nat → Int) (sm : Nat → Nat → Prop) (q p O P n c a s : Nat) (nms : List nm9) (ft : Int × Int) (M : mM) (x : Int) (M' : mM) : Prop := ∃ a' : Nat, mI M' (q + 1) 2 = a' ∧ ((x = 0 ∧ Rf W [50] 0 a') ∨ (x = 1 ∧ Rc W [50] 0 [50] a' ∧ (∀ i, i ≠ 7 → mI M' q i = mI M q i) ∧ (∀ j, j ≠ 2 → mI M' (q + 21) j = mI M (q + 21) j ∧ mI M' (q + 22) j = mI M (q + 22) j) ∧ (∀ i, i < s → mI M' O i = mI M O i ∧ mI M' P i = mI M P i) ∧ ∃ (e b : Nat) (I : Int × Int), a' = e + 1 ∧ W e = 34 ∧ FT M' (q + 1) (fst9 ft I) ∧ mI M' p 2 = (b : Int) ∧ (s ≤ b ∧ txF M q p O P 0 M') ∧ ((W a ≠ 9 ∧ a = e ∧ mI M' q 7 = 0 ∧ I = (0, 0)) ∨ (W a = 9 ∧ mI M' q 7 = 1 ∧ ∃ E Cf, Eo W 6 (a + 1) e ∧ ECq M (q + 1) p n W nq sm nms c 1 E Cf ∧ I = vrf W E pl (mI M q 8) (a + 1) e ∧ rvQz W pl Cf q O P 2 (a + 1) e b M'))))
theorem x_rv10 (f0 : FI (txS q p O P) M0 M) (h : TX M z q w T A B D N C n p O P K Ab Be Cm V F ns sf ef c cnt L) (hs : mI M p 2 = ((s : Nat) : Int)) (hLs : L ≤ s) (hsa : s ≤ a + 1) (ha : mI M (q + 1) 2 = ((a : Nat) : Int)) (han : a ≤ n) (hd : mI M (q + 1) 5 = 0) (hr6' : mI M (q + 1) 6 = 1) (hn : mI M q 3 = ((nw : Nat) : Int) ∧ nw < n ∧ mI M A nw = 2 ∧ mI M q 4 = ((L : Nat) : Int) ∧ (mI M q 8 = 0 ∨ mI M q 8 = 1) ∧ (12 ≤ V → mI M (q + 1) 3 ≠ 0)) (h8 : mI M q 8 = 0 → rvR M q O P F ns L s 0 ∧ rvR M q O P F ns L s 1) (wt : WTq M T A B D n W pl nq sm) (hF : FT M (q + 1) ft) (hR : Rc W [50] 0 [54, 34, 50] a) : Ci G y_RR_accept (d + 5) [vr (q + 1), vi 10] M (fun x59 M58 => i32 x59 ∧ mOk M58 ∧ (mK M58 q = 3 ∧ (x59 = 0 ∨ x59 = 1) ∧ ∀ M63, M63 = mUI M58 q 7 x59 → ((mI M63 q 7 = 0) → (mK M63 (mR M63 q 0) = 4 ∧ Ci G y_RR_accept (d + 5) [vr (mR M63 q 0), vi 35] M63 (fun x69 M68 => i32 x69 ∧ mOk M68 ∧ ((x69 = 0 ∨ x69 = 1) ∧ vaQ M0 z q w T A B D N C n p O P K Ab Be Cm V F ns sf ef c cnt L x69 M68 ∧ inV W pl nq sm q p O P n c a s nms ft M x69 M68)))) ∧ (¬ (mI M63 q 7 = 0) → (∀ v73 : Int, v73 = (if (mI M63 q 8 = 0) then 1 else 2) → Ci G y_TR_readItemRule (d + 5) [vr q, vi 2, vi v73] M63 (fun x78 M77 => i32 x78 ∧ mOk M77 ∧ (((x78 = 0) → (vaQ M0 z q w T A B D N C n p O P K Ab Be Cm V F ns sf ef c cnt L 0 M77 ∧ inV W pl nq sm q p O P n c a s nms ft M 0 M77)) ∧ (¬ (x78 = 0) → (mK M77 q = 3 ∧ mK M77 (mR M77 q 0) = 4 ∧ Ci G y_RR_accept (d + 5) [vr (mR M77 q 0), vi 35] M77 (fun x85 M84 => i32 x85 ∧ mOk M84 ∧ ((x85 = 0 ∨ x85 = 1) ∧ vaQ M0 z q w T A B D N C n p O P K Ab Be Cm V F ns sf ef c cnt L x85 M84 ∧ inV W pl nq sm q p O P n c a s nms ft M x85 M84)))))))))) := by
  have hr6 : mI M (q + 1) 6 ≠ 0 := by rw [hr6']; decide
  obtain ⟨⟨np0, np1, -, -⟩, ⟨nO0, nO1, -, -, -⟩, nP0, nP1, -, -, -⟩ := h.1.ne
  obtain ⟨q01, q10, q210, q211, -, -, q220, q221, -⟩ := q_ne q
  have ap := h.1.apart
  have qp := h.1.2.2.2.2.2.1.2.1
  obtain ⟨n1, n2, n3, n4, n5, n6⟩ := hn
  refine (x_tx_accept (x := 10) (i32s (by omega) (by omega)) (by omega) h ha han).mono (fun x59 M58 k => ?_)
  obtain ⟨i1, o1, hx, h1, x1, k1, r1, b1, m1⟩ := k
  refine ⟨i1, o1, h1.1.2.1.1, hx, fun M63 e63 => ?_⟩
  obtain ⟨h63, x63, g63⟩ := tx_ui h1 i1 e63 (Or.inl rfl)
  have gg : ∀ b, b ≠ q → mI M63 b = mI M58 b := fun b hb => by
    funext i
    rw [g63, if_neg (by omega)]
  have bb : ∀ b, b ≠ q → b ≠ q + 1 → mI M63 b = mI M b := fun b h0 h1 => by rw [gg b h0, b1 b h1]
  have qq : ∀ i, i ≠ 7 → mI M63 q i = mI M q i := fun i hi => by rw [g63, if_neg (fun u => hi u.2), b1 q (by omega)]
  have rr : ∀ i, i ≠ 2 → mI M63 (q + 1) i = mI M (q + 1) i := fun i hi => by rw [gg _ (by omega), r1 i hi]
  have A63 : mI M63 A nw = 2 := by rw [(h1.1.words x63.1).1, (h.1.words x1.1).1]; exact n3
  have hn63 : mI M63 q 3 = ((nw : Nat) : Int) ∧ nw < n ∧ mI M63 A nw = 2 ∧ mI M63 q 4 = ((L : Nat) : Int) ∧ (mI M63 q 8 = 0 ∨ mI M63 q 8 = 1) ∧ (12 ≤ V → mI M63 (q + 1) 3 ≠ 0) := ⟨by rw [qq 3 (by decide)]; exact n1, n2, A63, by rw [qq 4 (by decide)]; exact n4, by rw [qq 8 (by decide)]; exact n5, fun y => by rw [rr 3 (by decide)]; exact n6 y⟩
  have v63 : mI M63 q 8 = 0 → rvR M63 q O P F ns L s 0 ∧ rvR M63 q O P F ns L s 1 := fun y => by
    rw [qq 8 (by decide)] at y
    obtain ⟨u1, u2⟩ := h8 y
    exact ⟨u1.cg (by rw [bb _ q210 q211]) (fun i _ => ⟨by rw [bb O nO0 nO1], by rw [bb P nP0 nP1]⟩) (Nat.le_refl _), u2.cg (by rw [bb _ q210 q211]) (fun i _ => ⟨by rw [bb O nO0 nO1], by rw [bb P nP0 nP1]⟩) (Nat.le_refl _)⟩
  have wt63 : WTq M63 T A B D n W pl nq sm := (wt.fi h.1 x1.1).fi h1.1 x63.1
  have F63 : FT M63 (q + 1) ft := hF.same (rr 3 (by decide)) (rr 4 (by decide))
  have q7 : mI M63 q 7 = x59 := by rw [g63, if_pos ⟨rfl, rfl⟩]
  have p63 : mI M63 p 2 = ((s : Nat) : Int) := by rw [bb p np0 np1]; exact hs
  have d63 : mI M63 (q + 1) 5 = 0 := by rw [rr 5 (by decide)]; exact hd
  rw [h63.1.2.1.2.1]
  refine ⟨fun y => ⟨h63.1.1.2.1.1, ?_⟩, fun y v73 e73 => ?_⟩
  · have e0 : x59 = 0 := by
      rw [g63, if_pos ⟨rfl, rfl⟩] at y
      exact y
    have e2 := (k1.resolve_left (fun u => by have := u.1; omega)).2
    have a63 : mI M63 (q + 1) 2 = ((a : Nat) : Int) := by rw [gg _ (by omega), e2]; exact ha
    have n9 : W a ≠ 9 := fun u => m1 e0 ((wt.is han (by decide) (by decide)).mpr u)
    refine (x_rv35 ((f0.trans x1.1).trans x63.1) h63 p63 hLs hsa a63 han d63 hn63 v63 (fun u => absurd y u) wt63 (hR.trans (rc54 n9))).mono (fun x69 M68 u => ⟨u.1, u.2.1, u.2.2.1, u.2.2.2.1, ?_⟩)
    obtain ⟨a', j1, j2⟩ := u.2.2.2.2
    refine ⟨a', j1, ?_⟩
    rcases j2 with j2 | ⟨j2, j3, j4, j5, j6, j7, j8⟩
    · exact Or.inl j2
    · refine Or.inr ⟨j2, by rw [j3]; exact j5, fun i hi => by rw [j6 q q01]; exact qq i hi, fun j _ => ⟨by rw [j6 _ q211, bb _ q210 q211], by rw [j6 _ q221, bb _ q220 q221]⟩, fun i _ => ⟨by rw [j6 O nO1, bb O nO0 nO1], by rw [j6 P nP1, bb P nP0 nP1]⟩, a, s, (0, 0), j3, j4, (F63.same (j7 3 (by decide)) (j7 4 (by decide))).none, by rw [j6 p np1]; exact p63, ⟨Nat.le_refl _, ((x1.trans x63).less (Nat.zero_le _)).trans j8⟩, Or.inl ⟨n9, rfl, by rw [j6 q q01]; exact y, rfl⟩⟩
  · have e0 : x59 ≠ 0 := fun u => y (by rw [g63, if_pos ⟨rfl, rfl⟩]; exact u)
    obtain ⟨ex1, eA9, a58, an58⟩ := k1.resolve_right (fun u => e0 u.1)
    have w9 : W a = 9 := (wt.is han (by decide) (by decide)).mp eA9
    have rc1 : Rc W [50] 0 [61, 34, 50] (a + 1) := hR.trans (Rc.one (mst_n (by decide) (by decide) (ys := [61]) (t := 1) (by show ex54 (W a) = _; unfold ex54; rw [if_pos w9]) (Or.inl (by decide))))
    have a63 : mI M63 (q + 1) 2 = ((a + 1 : Nat) : Int) := by rw [gg _ (by omega)]; exact a58
    have i73 : i32 v73 := by rw [e73]; split <;> exact i32s (by omega) (by omega)
    have c63 : mI M63 (q + 1) 6 ≠ 0 := by rw [rr 6 (by decide)]; exact hr6
    refine (x_TR_readItemRule (k := 2) (d0 := 0) (nms := nms) (ft := ft) (zz := [34, 50]) (by omega) i73 h63 a63 (by omega) p63 hLs hsa d63 (by omega) (h63.2.1.2.2.1.nkc c63) wt63 F63 (by rw [d63]; rfl) hz34 rc1).mono (fun x78 M77 k => ?_)
    obtain ⟨⟨h77, x77, ⟨c77, q77, t77⟩, k77⟩, t22, E, Cf, ec, a9, ea9, iv⟩ := k
    rw [rr 6 (by decide), hr6'] at ec
    have ec : ECq M (q + 1) p n W nq sm nms c 1 E Cf := (ec.to x63.2).to x1.2
    have i78 : i32 x78 := by rcases k77 with u | u <;> rw [u.1] <;> exact i32s (by omega) (by omega)
    refine ⟨i78, h77.1.1.1, fun y => ?_, fun y => ?_⟩
    · obtain ⟨-, u⟩ := k77.resolve_right (fun u => by have := u.1; omega)
      refine ⟨⟨((f0.trans x1.1).trans x63.1).trans x77.1, Or.inl ⟨rfl, h77, u⟩⟩, a9, ea9, Or.inl ⟨rfl, ?_⟩⟩
      rcases iv with ⟨-, iv⟩ | ⟨iv, -⟩
      · exact iv
      · rw [y] at iv; exact absurd iv (by decide)
    obtain ⟨-, e, H, a', cd, p77, a77, aa, an, ea, d77⟩ := k77.resolve_left (fun u => y u.1)
    obtain ⟨-, L9, v1, v2, v3, v4, v5, v6, v7⟩ := iv.resolve_left (fun u => y u.1)
    clear iv
    have ea9' : a' = a9 := by rw [a77] at ea9; omega
    subst ea9'
    have eL : e = L9 := by rw [p77] at v1; omega
    subst eL
    have q8 : mI M63 q 8 = mI M q 8 := qq 8 (by decide)
    have F77 : FT M77 (q + 1) (fst9 ft (vrf W E pl (mI M q 8) (a + 1) a')) := by
      refine irv_ft (x := 0) v5 ?_
      rw [e73, q8]
      rcases n5 with u | u
      · rw [u]; simp
      · rw [u]; simp
    have wt77 : WTq M77 T A B D n W pl nq sm := wt63.fi h63.1 x77.1
    have se : s ≤ e := cd.2.2.2.2.2
    have fo : ∀ i, i < s → mI M77 O i = mI M63 O i ∧ mI M77 P i = mI M63 P i := x77.2.2.2.2.2.2
    rw [h77.1.2.1.2.1]
    refine ⟨h77.1.2.1.1, h77.1.1.2.1.1, (x_rv35 (s := e + 1) (((f0.trans x1.1).trans x63.1).trans x77.1) h77 p77 (by omega) (by omega) a77 an (by rw [d77]; exact d63) ⟨by rw [q77]; exact hn63.1, n2, by rw [(h63.1.words x77.1).1]; exact A63, by rw [q77]; exact hn63.2.2.2.1, by rw [q77]; exact hn63.2.2.2.2.1, fun u => x77.2.2.1 (hn63.2.2.2.2.2 u)⟩ (fun u => ?_) (fun _ => ⟨s, e, H, by rw [t77, if_pos rfl], cd, hLs, by omega⟩) wt77 v7).mono (fun x69 M68 u => ⟨u.1, u.2.1, u.2.2.1, u.2.2.2.1, ?_⟩)⟩
    rotate_left
    · obtain ⟨a8, j1, j2⟩ := u.2.2.2.2
      refine ⟨a8, j1, ?_⟩
      rcases j2 with j2 | ⟨j2, j3, j4, j5, j6, j7, j8⟩
      · exact Or.inl j2
      · refine Or.inr ⟨j2, by rw [j3]; exact j5, fun i hi => by rw [j6 q q01, q77]; exact qq i hi, fun j hj => ⟨by rw [j6 _ q211, t77, if_neg hj, bb _ q210 q211], by rw [j6 _ q221, t22, if_neg hj, bb _ q220 q221]⟩, fun i hi => ⟨by rw [j6 O nO1, (fo i hi).1, bb O nO0 nO1], by rw [j6 P nP1, (fo i hi).2, bb P nP0 nP1]⟩, a', e + 1, _, j3, j4, F77.same (j7 3 (by decide)) (j7 4 (by decide)), by rw [j6 p np1]; exact p77, ⟨by omega, (((x1.trans x63).less (Nat.zero_le _)).trans (x77.less (Nat.zero_le _))).trans j8⟩, Or.inr ⟨w9, by rw [j6 q q01, q77, q7]; exact ex1, E, Cf, v3, ec, rfl, s, e, by rw [j6 _ q211, t77, if_pos rfl], by rw [j6 O nO1]; exact v2, v6.cg (fun t _ _ => ⟨by rw [j6 O nO1], by rw [j6 P nP1]⟩), Nat.lt_succ_self _, by rw [j6 _ q221, t22, if_pos rfl]⟩⟩
    rw [q77] at u
    obtain ⟨u1, u2⟩ := v63 u
    exact ⟨u1.cg (by rw [t77, if_neg (by decide)]) fo (by omega), u2.cg (by rw [t77, if_neg (by decide)]) fo (by omega)⟩
end TXF
end
section
section
/-! The class's reader of texts, exactly: vars, the whole. -/
section TXG
variable {G : mG} {d z q w T A B D N C n p O P K Ab Be Cm V F c s s' L L' cnt Bn a d0 V1 F1 nw k b b' : Nat} {M0 M M' M1 M2 Mc : mM} {ns ns' ns1 : Nat → Int} {sf ef sf' ef' : Nat → Nat} {H : Nat → Nat} {S R : Nat → Prop} {W pl nq E : Nat → Int} {Cf : Nat → Int × Int} {sm : Nat → Nat → Prop} {nms : List nm9} {ft : Int × Int} {zz zr : List Int}
/-- a var, exactly: its first word a -/
def vaV (W pl nq : Nat → Int) (sm : Nat → Nat → Prop) (M : mM) (q p O P n c V a : Nat) (nms : List nm9) (ft : Int × Int) (x : Int) (M' : mM) : Prop := ∃ a' : Nat, mI M' (q + 1) 2 = a' ∧ ((x = 0 ∧ Rf W [50] 0 a') ∨ (x = 1 ∧ (W (a + 1) = 1 ∧ W (a + 2) = 33) ∧ mI M' q 3 = ((a + 1 : Nat) : Int) ∧ Rc W [50] 0 [50] a' ∧ ∃ (e i b : Nat) (f2 X I : Int × Int), a' = e + 1 ∧ W e = 34 ∧ (mI M' p 2 = (b : Int) ∧ txF M q p O P 0 M' ∧ ∀ i : Nat, (i : Int) < mI M p 2 → mI M' O i = mI M O i ∧ mI M' P i = mI M P i) ∧ (CT M (q + 1) p nms → nms.length = c → knf sm pl nms (a + 1) f2) ∧ FT M' (q + 1) (fst9 (fst9 (fst9 (fst9 ft (if V < 12 then (0, 0) else (5, pl a))) f2) X) I) ∧ ((W (a + 3) = 5 ∧ i = a + 4 ∧ mI M' q 8 = 1 ∧ X = (0, 0)) ∨ (W (a + 3) ≠ 5 ∧ mI M' q 8 = 0 ∧ ∃ (j : Nat) (E0 E1 : Nat → Int) (C0 C1 : Nat → Int × Int), Eo W 6 (a + 3) j ∧ W j = 16 ∧ Eo W 6 (j + 1) i ∧ ECq M (q + 1) p n W nq sm nms c 1 E0 C0 ∧ ECq M (q + 1) p n W nq sm nms c 1 E1 C1 ∧ X = fst9 (vrf W E0 pl 0 (a + 3) j) (vrf W E1 pl 0 (j + 1) i) ∧ rvQz W pl C0 q O P 0 (a + 3) j b M' ∧ rvQz W pl C1 q O P 1 (j + 1) i b M')) ∧ ((W i ≠ 9 ∧ i = e ∧ mI M' q 7 = 0 ∧ I = (0, 0)) ∨ (W i = 9 ∧ mI M' q 7 = 1 ∧ ∃ E Cf, Eo W 6 (i + 1) e ∧ ECq M (q + 1) p n W nq sm nms c 1 E Cf ∧ I = vrf W E pl (mI M' q 8) (i + 1) e ∧ rvQz W pl Cf q O P 2 (i + 1) e b M'))))
theorem x_TR_readVar (h : TX M z q w T A B D N C n p O P K Ab Be Cm V F ns sf ef c cnt L) (ha : mI M (q + 1) 2 = a) (han : a < n) (hs : mI M p 2 = L) (hsa : L ≤ a) (hd : mI M (q + 1) 5 = 0) (wt : WTq M T A B D n W pl nq sm) (hF : FT M (q + 1) ft) (hW : W a = 4) (hR : Rc W [50] 0 [50] a) : Ci G y_TR_readVar (d + 6) [vr q] M (fun x M' => vaQ M z q w T A B D N C n p O P K Ab Be Cm V F ns sf ef c cnt L x M' ∧ vaV W pl nq sm M q p O P n c V a nms ft x M') := by
  have ap := h.1.apart
  have qp := h.1.2.2.2.2.2.1.2.1
  have ok := h.1.1.1
  have rc1 : Rc W [50] 0 [1, 33, 53, 54, 34, 50] (a + 1) := by
    refine hR.trans (Rc.one (mst_n (by decide) (by decide) (ys := [1, 33, 53, 54, 34, 50]) (t := 1) ?_ (Or.inl (by decide))))
    rw [ex_50]
    unfold ex50
    rw [if_neg (by omega), if_neg (by omega), if_pos hW]
  have hN : n ≤ 16384 := by have := h.1.1.2.2.2.1.2.2.1; have := h.1.1.2.2.2.1.1.2.2.2.2.2.2.1; omega
  obtain ⟨⟨np0, np1, -, -⟩, ⟨nO0, nO1, -, -, -⟩, nP0, nP1, -, -, -⟩ := h.1.ne
  obtain ⟨q01, q10, q210, q211, -, -, q220, q221, -⟩ := q_ne q
  obtain ⟨t0, t1, t2, t3, t4, t5⟩ := h.1.2.1
  refine k_TR_readVar ok ?_
  rw [t1]
  refine ⟨t0, h.1.1.2.1.1, fun M3 e3 => ?_⟩
  obtain ⟨h3, x3, g3⟩ := tx_ui h (i32s (by omega) (by omega)) e3 (Or.inr (Or.inr (Or.inr (Or.inl ⟨rfl, Or.inr (Or.inr rfl)⟩))))
  have p3 : mI M3 p 2 = L := by rw [g3, if_neg (by omega)]; exact hs
  rw [h3.1.2.1.2.2.2.1, p3]
  refine ⟨h3.1.1.2.2.2.2.1.1, fun M6 e6 => ?_⟩
  obtain ⟨h6, x6, g6⟩ := tx_ui h3 ⟨by omega, by omega⟩ e6 (Or.inl rfl)
  rw [h6.1.2.1.2.2.2.1]
  refine ⟨h6.1.1.2.2.2.2.1.1, fun v10 e10 => ?_⟩
  have b10 : v10 = 0 ∨ v10 = 1 := by rw [e10]; split <;> omega
  have f6 := h6.2.1.1.1
  refine (x_TR_readName (a := a) (nms := nms) (i32s (by omega) (by omega)) h6 (by rw [g6, if_neg (by omega), g3, if_neg (by omega)]; exact ha) han ((wt.fi h.1 x3.1).fi h3.1 x6.1) (hF.same (by rw [g6, if_neg (by omega), g3, if_neg (by omega)]) (by rw [g6, if_neg (by omega), g3, if_neg (by omega)])) rc1).mono (fun x16 M15 k => ?_)
  obtain ⟨⟨h15, x15, n15, y15, k15⟩, a9, ea9, rv⟩ := k
  have wt15 : WTq M15 T A B D n W pl nq sm := ((wt.fi h.1 x3.1).fi h3.1 x6.1).fi h6.1 x15.1
  have ev10 : (if v10 = 0 then ((0 : Int), (0 : Int)) else (5, pl a)) = if V < 12 then (0, 0) else (5, pl a) := by
    rw [e10, f6]
    by_cases u : V < 12
    · rw [if_pos u, if_pos (by omega)]
    · rw [if_neg u, if_neg (by omega)]
  rw [ev10] at rv
  have i16 : i32 x16 := by rcases k15 with u | u <;> rw [u.1] <;> exact i32s (by omega) (by omega)
  refine ⟨i16, h15.1.1.1, fun y => ?_, fun y => ?_⟩
  · obtain ⟨-, u⟩ := k15.resolve_right (fun u => by have := u.1; omega)
    refine ⟨⟨(x3.1.trans x6.1).trans x15.1, Or.inl ⟨rfl, h15, u⟩⟩, a9, ea9, Or.inl ⟨rfl, ?_⟩⟩
    rcases rv with ⟨-, rv⟩ | ⟨rv, -⟩
    · exact rv
    · rw [y] at rv; exact absurd rv (by decide)
  obtain ⟨-, a15, a2n, q15, A15⟩ := k15.resolve_left (fun u => y u.1)
  clear k15
  obtain ⟨-, ea2, w1, rc2, f2, F15, kn⟩ := rv.resolve_left (fun u => y u.1)
  clear rv
  have kn : CT M (q + 1) p nms → nms.length = c → knf sm pl nms (a + 1) f2 := fun ct hl => kn ((ct.tx x3.2).tx x6.2) hl
  generalize ef5 : fst9 (fst9 ft (if V < 12 then (0, 0) else (5, pl a))) f2 = ft2 at F15
  rw [h15.1.2.1.2.1]
  refine ⟨h15.1.2.1.1, h15.1.1.2.1.1, (x_tx_accept (x := 34) (i32s (by omega) (by omega)) (by omega) h15 a15 a2n).mono (fun x23 M22 k => ?_)⟩
  obtain ⟨i23, o22, -, h22, x22, k22, r22, b22, m22⟩ := k
  refine ⟨i23, o22, fun y => ?_, fun y => ?_⟩
  · have e := (k22.resolve_left (fun u => by have := u.1; omega)).2
    rw [e]
    exact ⟨⟨(x3.1.trans x6.1).trans x15.1, Or.inl ⟨rfl, h15, _, a15, a2n⟩⟩, a + 2, a15, Or.inl ⟨rfl, rf_t rc2 (fun u => m22 y ((wt15.is a2n (by decide) (by decide)).mpr u)) (by decide)⟩⟩
  obtain ⟨-, eA, a22, a3n⟩ := k22.resolve_right (fun u => y u.1)
  clear k22
  have w33 : W (a + 2) = 33 := (wt15.is a2n (by decide) (by decide)).mp eA
  have rc3 := rc_t rc2 w33 (by decide)
  have wt22 : WTq M22 T A B D n W pl nq sm := wt15.fi h15.1 x22.1
  rw [h22.1.2.1.2.1]
  refine ⟨h22.1.2.1.1, h22.1.1.2.1.1, (x_tx_accept (x := 6) (i32s (by omega) (by omega)) (by omega) h22 a22 (by omega)).mono (fun x30 M29 k => ?_)⟩
  obtain ⟨i30, o29, hx30, h29, x29, k29, r29, b29, m29⟩ := k
  refine ⟨i30, o29, h29.1.2.1.1, hx30, fun M34 e34 => ?_⟩
  obtain ⟨h34, x34, g34⟩ := tx_ui h29 i30 e34 (Or.inl rfl)
  have gg : ∀ b, b ≠ q → mI M34 b = mI M29 b := fun b hb => by
    funext i
    rw [g34, if_neg (by omega)]
  have q34 : ∀ i, i ≠ 8 → mI M34 q i = mI M15 q i := fun i hi => by rw [g34, if_neg (fun u => hi u.2), b29 q (by omega), b22 q (by omega)]
  have r34 : ∀ i, i ≠ 2 → mI M34 (q + 1) i = mI M15 (q + 1) i := fun i hi => by rw [gg _ (by omega), r29 i hi, r22 i hi]
  have c34 : mI M34 (q + 1) 6 ≠ 0 := by rw [r34 6 (by decide), n15.1 6 (by decide) (by decide) (by decide), g6, if_neg (by omega), g3, if_pos ⟨rfl, rfl⟩]; omega
  have d34 : mI M34 (q + 1) 5 = 0 := by rw [r34 5 (by decide), n15.1 5 (by decide) (by decide) (by decide), g6, if_neg (by omega), g3, if_neg (by omega)]; exact hd
  have p34 : mI M34 p 2 = ((L : Nat) : Int) := by rw [gg p (by first | (have h1 := qp; omega) | omega), b29 p (by first | (have h1 := qp; omega) | omega), b22 p (by first | (have h1 := qp; omega) | omega), n15.2.2 p (by first | (have h1 := qp; omega) | omega) (by first | (have h1 := qp; omega) | omega), g6, if_neg (by omega)]; exact p3
  have hn : mI M34 q 3 = ((a + 1 : Nat) : Int) ∧ a + 1 < n ∧ mI M34 A (a + 1) = 2 ∧ mI M34 q 4 = ((L : Nat) : Int) ∧ (mI M34 q 8 = 0 ∨ mI M34 q 8 = 1) ∧ (12 ≤ V → mI M34 (q + 1) 3 ≠ 0) := by
    refine ⟨by rw [q34 3 (by decide)]; exact q15, by omega, ?_, by rw [q34 4 (by decide), n15.2.1 4 (by decide), g6, if_pos ⟨rfl, rfl⟩], by rw [g34, if_pos ⟨rfl, rfl⟩]; exact hx30, fun y => ?_⟩
    · rw [(h29.1.words x34.1).1, (h22.1.words x29.1).1, (h15.1.words x22.1).1]
      exact A15
    · rw [r34 3 (by decide)]
      exact y15 (by rw [e10, if_neg (by omega)]; omega)
  have f34 : FI (txS q p O P) M M34 := ((((x3.1.trans x6.1).trans x15.1).trans x22.1).trans x29.1).trans x34.1
  have wt34 : WTq M34 T A B D n W pl nq sm := (wt22.fi h22.1 x29.1).fi h29.1 x34.1
  have F34 : FT M34 (q + 1) ft2 := F15.same (r34 3 (by decide)) (r34 4 (by decide))
  have c34' : mI M34 (q + 1) 6 = 1 := by rw [r34 6 (by decide), n15.1 6 (by decide) (by decide) (by decide), g6, if_neg (by omega), g3, if_pos ⟨rfl, rfl⟩]
  have toM : ∀ {E : Nat → Int} {Cf : Nat → Int × Int}, ECq M34 (q + 1) p n W nq sm nms c 1 E Cf → ECq M (q + 1) p n W nq sm nms c 1 E Cf := fun k => (((((k.to x34.2).to x29.2).to x22.2).to x15.2).to x6.2).to x3.2
  have tL34 : txF M q p O P L M34 := ((((x3.trans x6).trans x15).trans x22).trans x29).trans x34
  have t34 : txF M q p O P 0 M34 := tL34.less (Nat.zero_le _)
  have q83 : mI M34 q 8 = x30 := by rw [g34, if_pos ⟨rfl, rfl⟩]
  refine ⟨fun y8 => ?_, fun y8 => ?_⟩
  · -- numbers
    have e0 : x30 = 0 := by rw [g34, if_pos ⟨rfl, rfl⟩] at y8; exact y8
    have e29 := (k29.resolve_left (fun u => by have := u.1; omega)).2
    have a34 : mI M34 (q + 1) 2 = ((a + 2 + 1 : Nat) : Int) := by rw [gg _ (by omega), e29]; exact a22
    have n5 : W (a + 3) ≠ 5 := fun u => m29 e0 ((wt22.is (show a + 2 + 1 ≤ n by omega) (by decide) (by decide)).mpr u)
    have rc4 : Rc W [50] 0 [61, 16, 61, 54, 34, 50] (a + 3) := rc3.trans (Rc.one (mst_n (by decide) (by decide) (ys := [61, 16, 61]) (t := 0) (by show ex53 (W (a + 3)) = _; unfold ex53; rw [if_neg n5]) (Or.inl (by decide))))
    refine (x_TR_readItemRule (k := 0) (d0 := 0) (nms := nms) (ft := ft2) (zz := [16, 61, 54, 34, 50]) (by omega) (i32s (by omega) (by omega)) h34 a34 (by omega) p34 (Nat.le_refl _) (by omega) d34 (by omega) (h34.2.1.2.2.1.nkc c34) wt34 F34 (by rw [d34]; rfl) (hz_t (by decide)) rc4).mono (fun x39 M38 k => ?_)
    obtain ⟨⟨h38, x38, ⟨c38, q38, t38⟩, k38⟩, t22A, E0, C0, ec0, a98, ea98, iv0⟩ := k
    rw [c34'] at ec0
    have ec0 := toM ec0
    have wt38 : WTq M38 T A B D n W pl nq sm := wt34.fi h34.1 x38.1
    have i39 : i32 x39 := by rcases k38 with u | u <;> rw [u.1] <;> exact i32s (by omega) (by omega)
    refine ⟨i39, h38.1.1.1, fun y => ?_, fun y => ?_⟩
    · obtain ⟨-, u⟩ := k38.resolve_right (fun u => by have := u.1; omega)
      refine ⟨⟨f34.trans x38.1, Or.inl ⟨rfl, h38, u⟩⟩, a98, ea98, Or.inl ⟨rfl, ?_⟩⟩
      rcases iv0 with ⟨-, iv⟩ | ⟨iv, -⟩
      · exact iv
      · rw [y] at iv; exact absurd iv (by decide)
    obtain ⟨-, eA, HA, aA, cdA, p38, a38, aa38, an38, ea38, d38⟩ := k38.resolve_left (fun u => y u.1)
    clear k38
    obtain ⟨-, L0, v1, v2, v3, v4, v5, v6, v7⟩ := iv0.resolve_left (fun u => y u.1)
    clear iv0
    have eaA : aA = a98 := by rw [a38] at ea98; omega
    subst eaA
    have eLA : eA = L0 := by rw [p38] at v1; omega
    subst eLA
    have F38 : FT M38 (q + 1) (fst9 ft2 (vrf W E0 pl 0 (a + 3) aA)) := irv_ft (x := 0) v5 (by simp)
    have seA : L ≤ eA := cdA.2.2.2.2.2
    rw [h38.1.2.1.2.1]
    refine ⟨h38.1.2.1.1, h38.1.1.2.1.1, (x_tx_accept (x := 17) (i32s (by omega) (by omega)) (by omega) h38 a38 an38).mono (fun x46 M45 k => ?_)⟩
    obtain ⟨i46, o45, -, h45, x45, k45, r45, b45, m45⟩ := k
    refine ⟨i46, o45, fun y => ?_, fun y => ?_⟩
    · have e := (k45.resolve_left (fun u => by have := u.1; omega)).2
      rw [e]
      exact ⟨⟨f34.trans x38.1, Or.inl ⟨rfl, h38, _, a38, an38⟩⟩, aA, a38, Or.inl ⟨rfl, rf_t v7 (fun u => m45 y ((wt38.is an38 (by decide) (by decide)).mpr u)) (by decide)⟩⟩
    obtain ⟨-, eA16, a45, an45⟩ := k45.resolve_right (fun u => y u.1)
    clear k45
    have w16 : W aA = 16 := (wt38.is an38 (by decide) (by decide)).mp eA16
    have rc5 := rc_t v7 w16 (by decide)
    have wt45 : WTq M45 T A B D n W pl nq sm := wt38.fi h38.1 x45.1
    have F45 : FT M45 (q + 1) (fst9 ft2 (vrf W E0 pl 0 (a + 3) aA)) := F38.same (r45 3 (by decide)) (r45 4 (by decide))
    have c45' : mI M45 (q + 1) 6 = 1 := by rw [r45 6 (by decide), c38]; exact c34'
    have c45 : mI M45 (q + 1) 6 ≠ 0 := by rw [r45 6 (by decide), c38]; exact c34
    have d45 : mI M45 (q + 1) 5 = 0 := by rw [r45 5 (by decide), d38]; exact d34
    have p45 : mI M45 p 2 = ((eA + 1 : Nat) : Int) := by rw [b45 p np1]; exact p38
    refine ⟨h45.1.2.1.1, (x_TR_readItemRule (k := 1) (d0 := 0) (nms := nms) (ft := fst9 ft2 (vrf W E0 pl 0 (a + 3) aA)) (zz := [54, 34, 50]) (by omega) (i32s (by omega) (by omega)) h45 a45 (by omega) p45 (by omega) (by omega) d45 (by omega) (h45.2.1.2.2.1.nkc c45) wt45 F45 (by rw [d45]; rfl) hz54 rc5).mono (fun x52 M51 k => ?_)⟩
    obtain ⟨⟨h51, x51, ⟨c51, q51, t51⟩, k51⟩, t22B, E1, C1, ec1, a99, ea99, iv1⟩ := k
    rw [c45'] at ec1
    have ec1 := toM ((ec1.to x45.2).to x38.2)
    have wt51 : WTq M51 T A B D n W pl nq sm := wt45.fi h45.1 x51.1
    have i52 : i32 x52 := by rcases k51 with u | u <;> rw [u.1] <;> exact i32s (by omega) (by omega)
    refine ⟨i52, h51.1.1.1, fun y => ?_, fun y => ?_⟩
    · obtain ⟨-, u⟩ := k51.resolve_right (fun u => by have := u.1; omega)
      refine ⟨⟨((f34.trans x38.1).trans x45.1).trans x51.1, Or.inl ⟨rfl, h51, u⟩⟩, a99, ea99, Or.inl ⟨rfl, ?_⟩⟩
      rcases iv1 with ⟨-, iv⟩ | ⟨iv, -⟩
      · exact iv
      · rw [y] at iv; exact absurd iv (by decide)
    obtain ⟨-, eB, HB, aB, cdB, p51, a51, aa51, an51, ea51, d51⟩ := k51.resolve_left (fun u => y u.1)
    clear k51
    obtain ⟨-, L1, z1, z2, z3, z4, z5, z6, z7⟩ := iv1.resolve_left (fun u => y u.1)
    clear iv1
    have eaB : aB = a99 := by rw [a51] at ea99; omega
    subst eaB
    have eLB : eB = L1 := by rw [p51] at z1; omega
    subst eLB
    have F51 : FT M51 (q + 1) (fst9 (fst9 ft2 (vrf W E0 pl 0 (a + 3) aA)) (vrf W E1 pl 0 (aA + 1) aB)) := irv_ft (x := 0) z5 (by simp)
    rw [fst9_as] at F51
    have rq1 : rvQz W pl C1 q O P 1 (aA + 1) aB (eB + 1) M51 := ⟨eA + 1, eB, by rw [t51, if_pos rfl], z2, z6, Nat.lt_succ_self _, by rw [t22B, if_pos rfl]⟩
    have rq0 : rvQz W pl C0 q O P 0 (a + 3) aA (eB + 1) M51 := ⟨L, eA, by rw [t51, if_neg (by decide), b45 _ q211, t38, if_pos rfl], by rw [(x51.2.2.2.2.2.2 eA (Nat.lt_succ_self _)).1, b45 O nO1]; exact v2, v6.cg (fun t _ t2 => ⟨by rw [(x51.2.2.2.2.2.2 t (Nat.lt_succ_of_lt t2)).1, b45 O nO1], by rw [(x51.2.2.2.2.2.2 t (Nat.lt_succ_of_lt t2)).2, b45 P nP1]⟩), by have := cdB.2.2.2.2.2; omega, by rw [t22B, if_neg (by decide), b45 _ q221, t22A, if_pos rfl]⟩
    have seB : eA + 1 ≤ eB := cdB.2.2.2.2.2
    have q51' : mI M51 q = mI M34 q := by rw [q51, b45 q q01, q38]
    rw [h51.1.2.1.2.1]
    refine ⟨h51.1.2.1.1, h51.1.1.2.1.1, (x_rv10 (s := eB + 1) (nms := nms) (((f34.trans x38.1).trans x45.1).trans x51.1) h51 p51 (by omega) (by omega) a51 an51 (by rw [d51]; exact d45) (by rw [c51]; exact c45') ⟨by rw [q51']; exact hn.1, hn.2.1, ?_, by rw [q51']; exact hn.2.2.2.1, by rw [q51']; exact hn.2.2.2.2.1, fun u => x51.2.2.1 (x45.2.2.1 (x38.2.2.1 (hn.2.2.2.2.2 u)))⟩ (fun _ => ⟨⟨L, eA, HA, ?_, ?_, Nat.le_refl _, by omega⟩, ⟨eA + 1, eB, HB, by rw [t51, if_pos rfl], cdB, by omega, by omega⟩⟩) wt51 F51 z7).mono (fun x59 M58 u => ⟨u.1, u.2.1, u.2.2.1, u.2.2.2.1, fun M63 e63 => ?_⟩)⟩
    rotate_left 3
    · have up : ∀ {x : Int} {M9 : mM}, inV W pl nq sm q p O P n c aB (eB + 1) nms (fst9 ft2 (fst9 (vrf W E0 pl 0 (a + 3) aA) (vrf W E1 pl 0 (aA + 1) aB))) M51 x M9 → vaV W pl nq sm M q p O P n c V a nms ft x M9 := fun {x M9} hv => by
        obtain ⟨a', g1, hv⟩ := hv
        refine ⟨a', g1, ?_⟩
        rcases hv with hv | ⟨hx, g2, g3, g4, g5, e, b9, I, g6, g7, g8, g9, ⟨g10, g12⟩, g11⟩
        · exact Or.inl hv
        · have q8 : mI M9 q 8 = 0 := by rw [g3 8 (by decide), q51']; exact y8
          refine Or.inr ⟨hx, ⟨w1, w33⟩, by rw [g3 3 (by decide), q51']; exact hn.1, g2, e, aB, b9, f2, _, I, g6, g7, ⟨g9, (((t34.trans (x38.less (Nat.zero_le _))).trans (x45.less (Nat.zero_le _))).trans (x51.less (Nat.zero_le _))).trans g12, fun i hi => by
            have hi : i < L := by rw [hs] at hi; omega
            rw [(g5 i (by omega)).1, (g5 i (by omega)).2, (x51.2.2.2.2.2.2 i (by omega)).1, (x51.2.2.2.2.2.2 i (by omega)).2, b45 O nO1, b45 P nP1, (x38.2.2.2.2.2.2 i hi).1, (x38.2.2.2.2.2.2 i hi).2]
            exact tL34.2.2.2.2.2.2 i hi⟩, kn, by rw [ef5]; exact g8, Or.inr ⟨n5, q8, aA, E0, E1, C0, C1, v3, w16, z3, ec0, ec1, rfl, rq0.cg (g4 0 (by decide)).1 (g4 0 (by decide)).2 g5 g10, rq1.cg (g4 1 (by decide)).1 (g4 1 (by decide)).2 g5 g10⟩, ?_⟩
          rcases g11 with g11 | ⟨j1, j2, E2, C2, j3, j4, j5, j6⟩
          · exact Or.inl g11
          · refine Or.inr ⟨j1, j2, E2, C2, j3, toM (((j4.to x51.2).to x45.2).to x38.2), ?_, j6⟩
            rw [j5, q51', q8]
            show vrf W E2 pl (mI M34 q 8) (aB + 1) e = _
            rw [y8]
      obtain ⟨s1, s2⟩ := u.2.2.2.2 M63 e63
      refine ⟨fun yy => ?_, fun yy v73 e73 => ?_⟩
      · obtain ⟨r1, r2⟩ := s1 yy
        exact ⟨r1, r2.mono (fun x69 M68 v => ⟨v.1, v.2.1, v.2.2.1, v.2.2.2.1, up v.2.2.2.2⟩)⟩
      · refine (s2 yy v73 e73).mono (fun x78 M77 v => ⟨v.1, v.2.1, fun y9 => ?_, fun y9 => ?_⟩)
        · obtain ⟨r1, r2⟩ := v.2.2.1 y9
          exact ⟨r1, up r2⟩
        · obtain ⟨r1, r2, r3⟩ := v.2.2.2 y9
          exact ⟨r1, r2, r3.mono (fun x84 M83 t => ⟨t.1, t.2.1, t.2.2.1, t.2.2.2.1, up t.2.2.2.2⟩)⟩
    · rw [(h45.1.words x51.1).1, (h38.1.words x45.1).1, (h34.1.words x38.1).1]
      exact hn.2.2.1
    · rw [t51, if_neg (by decide), b45 _ q211, t38, if_pos rfl]
    · exact cdA.cg (fun i hi => by rw [(x51.2.2.2.2.2.2 i (by omega)).1, b45 O nO1]) (fun i hi => by rw [(x51.2.2.2.2.2.2 i (by omega)).2, b45 P nP1])
  · have e0 : x30 ≠ 0 := fun u => y8 (by rw [g34, if_pos ⟨rfl, rfl⟩]; exact u)
    obtain ⟨x301, eA5, a29, an29⟩ := k29.resolve_right (fun u => e0 u.1)
    have w5 : W (a + 3) = 5 := (wt22.is (show a + 2 + 1 ≤ n by omega) (by decide) (by decide)).mp eA5
    have rc4 : Rc W [50] 0 [54, 34, 50] (a + 4) := rc3.trans (Rc.one (mst_n (by decide) (by decide) (ys := []) (t := 1) (by show ex53 (W (a + 3)) = _; unfold ex53; rw [if_pos w5]) (Or.inl (by decide))))
    have a34 : mI M34 (q + 1) 2 = ((a + 2 + 1 + 1 : Nat) : Int) := by rw [gg _ (by omega)]; exact a29
    rw [h34.1.2.1.2.1]
    refine ⟨h34.1.1.2.1.1, (x_rv10 (s := L) (nms := nms) f34 h34 p34 (Nat.le_refl _) (by omega) a34 (by omega) d34 c34' hn (fun u => absurd u y8) wt34 F34 rc4).mono (fun x59 M58 u => ⟨u.1, u.2.1, u.2.2.1, u.2.2.2.1, fun M63 e63 => ?_⟩)⟩
    have up : ∀ {x : Int} {M9 : mM}, inV W pl nq sm q p O P n c (a + 2 + 1 + 1) L nms ft2 M34 x M9 → vaV W pl nq sm M q p O P n c V a nms ft x M9 := fun {x M9} hv => by
      obtain ⟨a', g1, hv⟩ := hv
      refine ⟨a', g1, ?_⟩
      rcases hv with hv | ⟨hx, g2, g3, g4, g5, e, b9, I, g6, g7, g8, g9, ⟨g10, g12⟩, g11⟩
      · exact Or.inl hv
      · have q8 : mI M9 q 8 = 1 := by rw [g3 8 (by decide), q83]; exact x301
        refine Or.inr ⟨hx, ⟨w1, w33⟩, by rw [g3 3 (by decide)]; exact hn.1, g2, e, a + 4, b9, f2, (0, 0), I, g6, g7, ⟨g9, t34.trans g12, fun i hi => by
          have hi : i < L := by rw [hs] at hi; omega
          rw [(g5 i hi).1, (g5 i hi).2]
          exact tL34.2.2.2.2.2.2 i hi⟩, kn, ?_, Or.inl ⟨w5, rfl, q8, rfl⟩, ?_⟩
        · rw [ef5, fst9_as]
          exact g8
        · rcases g11 with g11 | ⟨j1, j2, E2, C2, j3, j4, j5, j6⟩
          · exact Or.inl g11
          · refine Or.inr ⟨j1, j2, E2, C2, j3, toM j4, ?_, j6⟩
            rw [j5, q83, q8, x301]
    obtain ⟨s1, s2⟩ := u.2.2.2.2 M63 e63
    refine ⟨fun yy => ?_, fun yy v73 e73 => ?_⟩
    · obtain ⟨r1, r2⟩ := s1 yy
      exact ⟨r1, r2.mono (fun x69 M68 v => ⟨v.1, v.2.1, v.2.2.1, v.2.2.2.1, up v.2.2.2.2⟩)⟩
    · refine (s2 yy v73 e73).mono (fun x78 M77 v => ⟨v.1, v.2.1, fun y9 => ?_, fun y9 => ?_⟩)
      · obtain ⟨r1, r2⟩ := v.2.2.1 y9
        exact ⟨r1, up r2⟩
      · obtain ⟨r1, r2, r3⟩ := v.2.2.2 y9
        exact ⟨r1, r2, r3.mono (fun x84 M83 t => ⟨t.1, t.2.1, t.2.2.1, t.2.2.2.1, up t.2.2.2.2⟩)⟩
end TXG
end
section
/-! The class's reader of texts, exactly: worksOut. -/
section TXH
variable {G : mG} {d z q w T A B D N C n p O P K Ab Be Cm V F c s s' L L' cnt Bn a d0 V1 F1 nw k e s9 : Nat} {M0 M M' M1 M2 : mM} {ns ns' ns1 : Nat → Int} {sf ef sf' ef' : Nat → Nat} {H : Nat → Nat} {S R : Nat → Prop} {W pl nq E : Nat → Int} {Cf : Nat → Int × Int} {cv : Nat → vrs} {sm : Nat → Nat → Prop} {nms : List nm9} {ft : Int × Int}
/-- the fault of a value, which must be whole if l2 is not 0 -/
def wuf (l2 : Int) (v : vrs) (pp : Int) : Int × Int := if l2 = 0 then (if v.1 ≠ 0 then (v.1, v.2.1) else (0, 0)) else wh9 v pp
/-- working out a rule, exactly -/
def wuV (q : Nat) (l2 : Int) (v : vrs) (pp : Int) (x : Int) (M' : mM) : Prop := (x = 0 ∧ (wuf l2 v pp).1 ≠ 0 ∧ FT M' (q + 1) (wuf l2 v pp)) ∨ (x = 1 ∧ (wuf l2 v pp).1 = 0 ∧ v.1 = 0 ∧ FT M' (q + 1) (0, 0) ∧ ptq M' (q + 11) 0 v.2.1 v.2.2)
/-- the program's cells stay -/
theorem wu_p {Ab Be : Nat} (h : TX M z q w T A B D N C n p O P K Ab Be Cm V F ns sf ef c cnt L) (fa : FA (fun x => x = q + 1 ∨ mcS (q + 11) Ab Be x) (fun x => x = q + 11) M M') : ∀ i, i ≤ 15 → mI M' (p + i) = mI M (p + i) := fun i hi => by
  have qp := h.1.2.2.2.2.2.1.2.1
  have pk := h.1.1.2.2.2.2.1
  obtain ⟨a1, a2, -, -⟩ := h.1.2.2.2.1.2.2.2.2.2.1
  have o4 := pk.2.2.2.1.2.2.2
  have zz := pk.2.2.2.2.1.1
  refine (fa.2 (p + i) (by omega)).2.2.2.2 (fun y => ?_)
  have y' : p + i = q + 1 ∨ p + i = q + 11 ∨ p + i = q + 11 + 2 ∨ (q + 11 + 5 ≤ p + i ∧ p + i ≤ q + 11 + 9) ∨ p + i = Ab ∨ p + i = Be := y
  clear fa h pk
  omega
/-- what else stays -/
def wkK (q p : Nat) (M M' : mM) : Prop := mI M' (q + 22) = mI M (q + 22) ∧ mI M' (p + 6) = mI M (p + 6) ∧ mI M' (p + 7) = mI M (p + 7)
theorem x_TR_worksOut {l2 : Int} {x y : Nat} (hF : FMx G) (hk : k < 3) (i2 : i32 l2) (h : TX M z q w T A B D N C n p O P K Ab Be Cm V F ns sf ef c cnt L) (h0 : mI M (q + 1) 3 = 0) (hr : mI M (q + 21) k = ((s : Nat) : Int)) (hp2 : mI M p 2 = ((s9 : Nat) : Int)) (hs9 : s9 ≤ n) (hlf : ∀ k, (W k = 1 ∨ W k = 2 ∨ W k = 12 ∨ W k = 13) → (W k = 1 → E k ≠ -1) → Lfo M p W E cv Cf k) (eo : Eo W 6 x y) (hfl : (fl W E pl 0 x y).1 = 0) (hc : Cd W Cf pl (mI M O) (mI M P) 0 0 0 x y s e) (he9 : e < s9) (oe : mI M O e = 0) (h22 : l2 ≠ 0 → mI M (q + 22) k = pl x) : Ci G y_TR_worksOut (d + 5) [vr q, vi k, vi l2] M (fun r M' => wuQ M z q w T A B D N C n p O P K Ab Be Cm V F ns sf ef c cnt L r M' ∧ wuV q l2 (vlq W cv pl 0 0 x y) (pl x) r M' ∧ (∀ nms, CT M (q + 1) p nms → CT M' (q + 1) p nms) ∧ wkK q p M M') := by
  have ap : Hid _ := h.1.apart
  replace h22 : Hid _ := h22
  have qp : Hid _ := h.1.2.2.2.2.2.1.2.1
  have ok := h.1.1.1
  have hK := h.1.1.2.2.2.2.2.2
  have hN : n ≤ 16384 := by have := h.1.1.2.2.2.1.2.2.1; have := h.1.1.2.2.2.1.1.2.2.2.2.2.2.1; omega
  obtain ⟨t0, t1, t2, t3, t4, t5⟩ := h.1.2.1
  obtain ⟨s1, s2, s3, s4⟩ := h.1.2.2.1
  have lse := hc.lt
  generalize hv : vlq W cv pl 0 0 x y = v
  refine k_TR_worksOut ok (i32s (by omega) (by omega)) i2 ?_
  rw [t2, t4, s3, Int.toNat_natCast, hr]
  refine ⟨t0, s1, by omega, h.1.2.2.2.1.1, (x_Ma_run (X := fun _ => False) hF ok h.1.2.2.2.1 (fun x hx => hx.elim) ⟨h.1.1.2.2.2.2.1, h.1.2.2.2.2.1, ap.1, hp2, by omega, by omega⟩ hlf eo hfl hc he9 oe).mono (fun x6 M5 k5 => ?_)⟩
  obtain ⟨k5, rx⟩ := k5
  rw [hv] at rx
  obtain ⟨-, k5⟩ := k5
  have i6 : i32 x6 := by rcases k5 with u | u <;> rw [u.1] <;> exact i32s (by omega) (by omega)
  obtain ⟨Ab', Be', Cm', h5, ⟨m1, m2, m3⟩, hb5, q0, q1, q21, q22, qp5, qO, qP, qA⟩ : ∃ Ab' Be' Cm', TX M5 z q w T A B D N C n p O P K Ab' Be' Cm' V F ns sf ef c cnt L ∧ maF M q Ab Be Cm M5 Ab' Be' Cm' ∧ (¬ (x6 = 0) → 1 ≤ mI M5 Be' 0 ∧ mI M5 Be' 0 < 1000000000) ∧ (mI M5 q = mI M q ∧ mI M5 (q + 1) = mI M (q + 1) ∧ mI M5 (q + 21) = mI M (q + 21) ∧ mI M5 (q + 22) = mI M (q + 22) ∧ mI M5 p = mI M p ∧ mI M5 O = mI M O ∧ mI M5 P = mI M P ∧ mI M5 A = mI M A) := by
    rcases k5 with ⟨e1, -, t, cc, hM⟩ | ⟨e1, hM⟩
    · obtain ⟨Ab', Be', Cm', v1, v2, v3, v4⟩ := h.ma hM
      exact ⟨Ab', Be', Cm', v1, v2, fun y => absurd e1 y, v4⟩
    · obtain ⟨Ab', Be', Cm', v1, v2, v3, v4⟩ := h.ma hM
      exact ⟨Ab', Be', Cm', v1, v2, fun _ => v3 0 (by omega), v4⟩
  clear k5
  replace hb5 : Hid _ := hb5
  have m1' : FA (fun x => x = q + 1 ∨ mcS (q + 11) Ab Be x) (fun x => x = q + 11) M M5 := m1.mono (fun _ _ y => Or.inr y) (fun _ _ y => y)
  have ct5 : ∀ nms, CT M (q + 1) p nms → CT M5 (q + 1) p nms := fun nms ct => by
    obtain ⟨s1', -, -, s4', -⟩ := h.1.mst m1
    exact ct.cg (by rw [q1]) (by rw [show q + 1 + 6 = q + 7 by first | rfl | omega]; exact (s1' 7 (by omega)).2.2.2) (by rw [show q + 1 + 7 = q + 8 by first | rfl | omega]; exact (s1' 8 (by omega)).2.2.2) (by rw [show q + 1 + 8 = q + 9 by first | rfl | omega]; exact (s1' 9 (by omega)).2.2.2) (by rw [show q + 1 + 9 = q + 10 by first | rfl | omega]; exact (s1' 10 (by omega)).2.2.2) (s4' 6 (by omega)).2.2.2 (s4' 7 (by omega)).2.2.2
  have kk5 : wkK q p M M5 := by
    obtain ⟨-, -, s3', s4', -⟩ := h.1.mst m1
    exact ⟨s3'.2.2.2, (s4' 6 (by omega)).2.2.2, (s4' 7 (by omega)).2.2.2⟩
  have F5 : FT M5 (q + 1) (0, 0) := ⟨by rw [q1]; exact h0, fun u => absurd rfl u⟩
  have nt : ∀ {y zz : Int}, y ≠ 0 → i32 y → i32 zz → Cv G y_RR_note (d + 4) [vr (q + 1), vi y, vi zz] M5 (fun M19 => mOk M19 ∧ wuQ M z q w T A B D N C n p O P K Ab Be Cm V F ns sf ef c cnt L 0 M19 ∧ FT M19 (q + 1) (y, zz) ∧ (∀ nms, CT M (q + 1) p nms → CT M19 (q + 1) p nms) ∧ wkK q p M M19) := fun {y zz} y0 iy iz => (x_tx_note iy y0 iz h5).mono (fun M19 kk => by
    obtain ⟨o19, h19, x19, -, u4, u5, u6⟩ := kk
    have ap5 : Hid _ := h5.1.apart
    refine ⟨o19, ⟨Ab', Be', Cm', h19, ?_, m2, ?_, ⟨by rw [u5 q (by omega)]; exact q0, fun i i3 i4 => by rw [u4 i i3 i4, q1], by rw [u5 _ (by omega)]; exact q21, by rw [u5 p (by first | (have h1 := qp; unfold Hid at h1; omega) | (unfold Hid at qp ap ap5; omega))]; exact qp5, by rw [u5 O (by first | (have h0 := qp; unfold Hid at h0; have h1 := ap.2.2.2.1; have h2 := ap.2.1; omega) | (unfold Hid at qp ap ap5; omega))]; exact qO, by rw [u5 P (by first | (have h0 := qp; unfold Hid at h0; have h1 := ap.2.2.2.2.1; have h2 := ap.2.2.1; omega) | (unfold Hid at qp ap ap5; omega))]; exact qP, by rw [(h5.1.words x19.1).1]; exact qA⟩, Or.inl rfl⟩, u6 (0, 0) F5, fun nms ct => (ct5 nms ct).tx x19.2, by rw [u5 _ (by omega)]; exact kk5.1, by rw [u5 _ (by have h0 := qp; unfold Hid at h0; omega)]; exact kk5.2.1, by rw [u5 _ (by have h0 := qp; unfold Hid at h0; omega)]; exact kk5.2.2⟩
    · have f19 : FA (fun x => x = q + 1) (fun _ => False) M5 M19 := ⟨⟨by rw [x19.1.2.2.2.2.1]; exact Nat.le_refl _, by rw [x19.1.2.2.2.2.2.1]; exact Nat.le_refl _⟩, fun x _ => ⟨by rw [x19.1.1], by rw [x19.1.2.1], by rw [x19.1.2.2.2.1], fun _ => by rw [x19.1.2.2.1], fun y => u5 x y⟩⟩
      exact m1'.trans2 f19 (fun x _ y => Or.inl y) (fun _ _ y => y.elim)
    · rw [x19.1.2.2.2.2.1, x19.1.2.2.2.2.2.1]
      exact m3)
  have k5m := h5.1.2.2.2.1
  obtain ⟨r0, r1, r2, r3, r4, r5⟩ := h5.1.2.1
  have rB : mR M5 (q + 11) 7 = Be' := k5m.2.1.2.2.2.1
  rw [r1, r2, r5, rB]
  have vx : Hid ((x6 = 0 ∧ v.1 ≠ 0 ∧ mI M5 (q + 11) 1 = v.1 ∧ mI M5 (q + 11) 2 = v.2.1) ∨ (x6 = 1 ∧ v.1 = 0 ∧ ptq M5 (q + 11) 0 v.2.1 v.2.2)) := rx
  clear rx
  have bB : Hid (v.1 = 0 → x6 = 1 → mI M5 Be' 0 = v.2.2) := fun u1 u2 => by
    rcases vx with w | w
    · exact absurd (w.1.symm.trans u2) (by decide)
    · rw [← rB]; exact w.2.2.2
  refine ⟨i6, h5.1.1.1, fun y => ⟨r0, k5m.1, h5.1.1.2.1.1, ?_⟩, fun y => ⟨fun _ => ⟨r0, k5m.1, k5m.2.2.1.2.2.2.1, ⟨by omega, ?_⟩⟩, fun y2 => ?_, fun y2 => ⟨r0, h5.1.2.2.1.2.1, ⟨by omega, by rw [h5.1.2.2.1.2.2.2]; omega⟩, h5.1.1.2.1.1, ?_⟩⟩⟩
  · obtain ⟨-, u1, u2, u3⟩ := Or.resolve_right vx (fun u => by rw [y] at u; exact absurd u.1 (by decide))
    have ew : wuf l2 v (pl x) = (v.1, v.2.1) := by
      unfold wuf wh9
      rw [if_pos u1, if_pos u1]
      split <;> rfl
    refine (nt (by rw [u2]; exact u1) (h5.1.1.1 _ _).1 (h5.1.1.1 _ _).1).mono (fun M19 t => ⟨t.1, t.2.1, Or.inl ⟨rfl, ?_, ?_⟩, t.2.2.2⟩)
    · rw [ew]; exact u1
    · rw [ew, ← u2, ← u3]; exact t.2.2.1
  · have := k5m.2.2.2.1.2.2.1
    have := k5m.2.2.2.2.2.2.2
    omega
  · have x1 : x6 = 1 := Or.elim vx (fun u => absurd u.1 y) (fun u => u.1)
    obtain ⟨-, u1, u2⟩ := Or.resolve_left vx (fun u => y u.1)
    have ew : wuf l2 v (pl x) = (0, 0) := by
      unfold wuf wh9
      by_cases l0 : l2 = 0
      · rw [if_pos l0, if_neg (fun z => z u1)]
      · have b1 := y2.resolve_left l0
        rw [bB u1 x1] at b1
        rw [if_neg l0, if_neg (fun z => z u1), if_neg (fun z => z b1)]
    exact ⟨⟨Ab', Be', Cm', h5, m1', m2, m3, ⟨q0, fun i _ _ => by rw [q1], q21, qp5, qO, qP, qA⟩, Or.inr ⟨rfl, by rw [q1]; exact h0, hb5 y⟩⟩, Or.inr ⟨rfl, by rw [ew], u1, F5, u2⟩, ct5, kk5⟩
  · have x1 : x6 = 1 := Or.elim vx (fun u => absurd u.1 y) (fun u => u.1)
    obtain ⟨-, u1, u2⟩ := Or.resolve_left vx (fun u => y u.1)
    have l0 : ¬ l2 = 0 := fun z => y2 (Or.inl z)
    have b1 : v.2.2 ≠ 1 := fun z => y2 (Or.inr (by rw [bB u1 x1]; exact z))
    have ew : wuf l2 v (pl x) = (8, pl x) := by
      unfold wuf wh9
      rw [if_neg l0, if_neg (fun z => z u1), if_pos b1]
    have e22 : mI M5 (q + 22) k = pl x := by rw [q22]; exact h22 l0
    rw [e22]
    refine (nt (by decide) (i32s (by omega) (by omega)) (by rw [← e22]; exact (h5.1.1.1 _ _).1)).mono (fun M19 t => ⟨t.1, t.2.1, Or.inl ⟨rfl, by rw [ew]; simp, by rw [ew]; exact t.2.2.1⟩, t.2.2.2⟩)
end TXH
end
end
section
section
/-! The class's reader of texts, exactly: one name more. -/
section TXI
variable {G : mG} {d z r q w T A B D N C n p O P K k a a' s L L1 V F d0 c Ab Be Cm cnt nw Ab0 Be0 Cm0 : Nat} {M0 M M' M1 M2 : mM} {H H1 : Nat → Nat} {ns : Nat → Int} {sf ef : Nat → Nat} {wt : Int} {nms : List nm9}
/-- a name is put down at c -/
def knX (M : mM) (r c v : Nat) (l2 l3 l4 : Int) (M' : mM) : Prop := mI M' r 19 = ((c + 1 : Nat) : Int) ∧ (∀ i, mI M' (r + 6) i = if i = c then (v : Int) else mI M (r + 6) i) ∧ (∀ i, mI M' (r + 7) i = if i = c then l2 else mI M (r + 7) i) ∧ (∀ i, mI M' (r + 8) i = if i = c then l3 else mI M (r + 8) i) ∧ ∀ i, mI M' (r + 9) i = if i = c then l4 else mI M (r + 9) i
theorem x_RR_know {v : Nat} {l2 l3 l4 : Int} (h : RB M z r w T A B D N C n p O P K) (nk : TN M r A n V F ns c) (hv : v < n) (h2 : mI M A v = 2) (i2 : i32 l2) (i3 : i32 l3) (h4 : l4 = 0 ∨ l4 = 1) (hl : (l2 = 5 ∧ 0 ≤ l3 ∧ l3 < V) ∨ ((l2 = 4 ∨ l2 = 7) ∧ 0 ≤ l3 ∧ l3 < F ∧ ns l3.toNat = l2)) : Cv G y_RR_know d [vr r, vi v, vi l2, vi l3, vi l4] M (fun M' => RB M' z r w T A B D N C n p O P K ∧ FI (fun b => r ≤ b ∧ b ≤ r + 9) M M' ∧ (∀ i, i ≠ 19 → mI M' r i = mI M r i) ∧ (∀ i, i ≤ 5 → 1 ≤ i → mI M' (r + i) = mI M (r + i)) ∧ (∃ c', TN M' r A n V F ns c' ∧ c ≤ c') ∧ (c < 72 → knX M r c v l2 l3 l4 M')) := by
  obtain ⟨-, ⟨k0, ⟨-, -, -, -, -, q15, q16, q17, q18⟩, ⟨-, -, -, -, -, kk6, kk7, kk8, kk9⟩, ⟨-, -, -, -, -, nn6, nn7, nn8, nn9⟩⟩, -⟩ := id h
  have hn := h.2.2.2.1.2.2.1
  have hN := h.2.2.2.1.1.2.2.2.2.2.2.1
  obtain ⟨m1, m2, m3⟩ := id nk
  refine k_RR_know h.1 (i32s (by omega) (by omega)) i2 i3 (i32s (by omega) (by omega)) ?_
  rw [q15, nn6, m1, Int.toNat_natCast]
  refine ⟨k0, kk6, i32s (by omega) (by omega), fun y => ⟨h, FI.refl, fun _ _ => rfl, fun _ _ _ => rfl, ⟨c, nk, Nat.le_refl _⟩, fun u => absurd y (by omega)⟩, fun y => ⟨by omega, fun M13 e13 => ?_⟩⟩
  obtain ⟨h13, f13, g13, n13⟩ := rb_tab h (i := 6) (by omega) (by omega) (i32s (by omega) (by omega)) e13
  obtain ⟨-, ⟨k0a, ⟨-, -, -, -, -, -, qa, -⟩, ⟨-, -, -, -, -, -, ka, -⟩, ⟨-, -, -, -, -, -, na, -⟩⟩, -⟩ := id h13
  rw [qa, na, n13 r (by omega), m1, Int.toNat_natCast]
  refine ⟨ka, by omega, fun M17 e17 => ?_⟩
  obtain ⟨h17, f17, g17, n17⟩ := rb_tab h13 (i := 7) (by omega) (by omega) i2 e17
  obtain ⟨-, ⟨k0b, ⟨-, -, -, -, -, -, -, qb, -⟩, ⟨-, -, -, -, -, -, -, kb, -⟩, ⟨-, -, -, -, -, -, -, nb, -⟩⟩, -⟩ := id h17
  rw [qb, nb, n17 r (by omega), n13 r (by omega), m1, Int.toNat_natCast]
  refine ⟨kb, by omega, fun M21 e21 => ?_⟩
  obtain ⟨h21, f21, g21, n21⟩ := rb_tab h17 (i := 8) (by omega) (by omega) i3 e21
  obtain ⟨-, ⟨k0c, ⟨-, -, -, -, -, -, -, -, qc⟩, ⟨-, -, -, -, -, -, -, -, kc⟩, ⟨-, -, -, -, -, -, -, -, nc⟩⟩, -⟩ := id h21
  rw [qc, nc, n21 r (by omega), n17 r (by omega), n13 r (by omega), m1, Int.toNat_natCast]
  refine ⟨kc, by omega, h4, fun M26 e26 => ?_⟩
  obtain ⟨h26, f26, g26, n26⟩ := rb_tab h21 (i := 9) (by omega) (by omega) (i32s (by omega) (by omega)) e26
  have r26 : mI M26 r = mI M r := by rw [n26 r (by omega), n21 r (by omega), n17 r (by omega), n13 r (by omega)]
  rw [r26, m1]
  refine ⟨⟨by omega, by omega⟩, fun M29 e29 => ?_⟩
  obtain ⟨h29, f29, r29, n29⟩ := rb_fld h26 ⟨by omega, by omega⟩ e29
  have fi : FI (fun b => r ≤ b ∧ b ≤ r + 9) M M29 := by
    have x13 : FI (fun b => r ≤ b ∧ b ≤ r + 9) M M13 := by rw [e13]; exact FI.ui ⟨by omega, by omega⟩
    have x17 : FI (fun b => r ≤ b ∧ b ≤ r + 9) M13 M17 := by rw [e17]; exact FI.ui ⟨by omega, by omega⟩
    have x21 : FI (fun b => r ≤ b ∧ b ≤ r + 9) M17 M21 := by rw [e21]; exact FI.ui ⟨by omega, by omega⟩
    have x26 : FI (fun b => r ≤ b ∧ b ≤ r + 9) M21 M26 := by rw [e26]; exact FI.ui ⟨by omega, by omega⟩
    have x29 : FI (fun b => r ≤ b ∧ b ≤ r + 9) M26 M29 := by rw [e29]; exact FI.ui ⟨by omega, by omega⟩
    exact (((x13.trans x17).trans x21).trans x26).trans x29
  have hA := (h.word ((((f13.trans f17).trans f21).trans f26).trans f29)).1
  refine ⟨h29, fi, fun i i19 => by rw [r29, if_neg i19, r26], fun i i5 i1 => by rw [n29 _ (by omega), n26 _ (by omega), n21 _ (by omega), n17 _ (by omega), n13 _ (by omega)], ⟨c + 1, ⟨by rw [r29, if_pos rfl]; omega, by omega, fun i hi => ?_⟩, by omega⟩, fun _ => ⟨by rw [r29, if_pos rfl]; omega, fun i => by rw [n29 _ (by omega), n26 _ (by omega), n21 _ (by omega), n17 _ (by omega), g13], fun i => by rw [n29 _ (by omega), n26 _ (by omega), n21 _ (by omega), g17, n13 _ (by omega)], fun i => by rw [n29 _ (by omega), n26 _ (by omega), g21, n17 _ (by omega), n13 _ (by omega)], fun i => by rw [n29 _ (by omega), g26, n21 _ (by omega), n17 _ (by omega), n13 _ (by omega)]⟩⟩
  rw [hA, show mI M29 (r + 6) i = if i = c then (v : Int) else mI M (r + 6) i by rw [n29 _ (by omega), n26 _ (by omega), n21 _ (by omega), n17 _ (by omega), g13], show mI M29 (r + 7) i = if i = c then l2 else mI M (r + 7) i by rw [n29 _ (by omega), n26 _ (by omega), n21 _ (by omega), g17, n13 _ (by omega)], show mI M29 (r + 8) i = if i = c then l3 else mI M (r + 8) i by rw [n29 _ (by omega), n26 _ (by omega), g21, n17 _ (by omega), n13 _ (by omega)], show mI M29 (r + 9) i = if i = c then l4 else mI M (r + 9) i by rw [n29 _ (by omega), g26, n21 _ (by omega), n17 _ (by omega), n13 _ (by omega)]]
  by_cases y : i = c
  · rw [if_pos y, if_pos y, if_pos y, if_pos y]
    exact ⟨⟨v, rfl, hv, h2⟩, hl, h4⟩
  · rw [if_neg y, if_neg y, if_neg y, if_neg y]
    exact m3 i (by omega)
/-- the tables with one name more -/
theorem CT.kn {v : Nat} {l2 l3 l4 : Int} {e : nm9} (ct : CT M r p nms) (hc : nms.length = c) (kx : knX M r c v l2 l3 l4 M') (h6 : mI M' (p + 6) = mI M (p + 6)) (h7 : mI M' (p + 7) = mI M (p + 7)) (f1 : e.1 = v) (f2 : srt9 e.2.1 = l2) (f3 : 1 ≤ e.2.1 ∧ e.2.1 ≤ 3) (f4 : e.2.2.1 = l4) (f5 : e.2.1 = 1 → vgd e.2.2.1 e.2.2.2 ∧ ∃ x : Nat, l3 = x ∧ x < 60 ∧ (1 ≤ mI M (p + 7) x ∧ mI M (p + 7) x < 1000000000) ∧ e.2.2.2 = (0, mI M (p + 6) x, mI M (p + 7) x)) (f6 : e.2.1 = 3 → ∀ (j : Nat) (e' : nm9), nms[j]? = some e' → e'.2.1 = 3 → mI M (r + 8) j ≠ l3) (f7 : l3 = (if e.2.1 = 3 then ((vcn nms : Nat) : Int) else ((rcn nms : Nat) : Int))) : CT M' r p (nms ++ [e]) := by
  obtain ⟨k1, k2, k3, k4, k5⟩ := kx
  have at9 : ∀ {j : Nat} {e' : nm9}, (nms ++ [e])[j]? = some e' → (j = c ∧ e' = e) ∨ (j ≠ c ∧ nms[j]? = some e') := fun {j e'} he => by
    by_cases y : j = c
    · refine Or.inl ⟨y, ?_⟩
      rw [y, ← hc, List.getElem?_append_right (Nat.le_refl _), Nat.sub_self] at he
      exact (Option.some.inj he).symm
    · refine Or.inr ⟨y, ?_⟩
      have hj : j < nms.length := by
        have := (List.getElem?_eq_some_iff.mp he).1
        rw [List.length_append] at this
        simp at this
        omega
      rw [List.getElem?_append_left hj] at he
      exact he
  refine ⟨by rw [k1, List.length_append, hc]; rfl, fun i e' he => ?_⟩
  have vn : e'.2.1 = 3 → ∀ (j : Nat) (e'' : nm9), (nms ++ [e])[j]? = some e'' → e''.2.1 = 3 → mI M' (r + 8) j = mI M' (r + 8) i → j = i := fun g1 j e'' hj g2 g3 => by
    rw [k4, k4] at g3
    rcases at9 he with ⟨y1, y2⟩ | ⟨y1, y2⟩
    · rcases at9 hj with ⟨z1, z2⟩ | ⟨z1, z2⟩
      · rw [y1, z1]
      · rw [if_neg z1, if_pos y1] at g3
        rw [y2] at g1
        exact absurd g3 (f6 g1 j e'' z2 g2)
    · rcases at9 hj with ⟨z1, z2⟩ | ⟨z1, z2⟩
      · rw [if_pos z1, if_neg y1] at g3
        rw [z2] at g2
        exact absurd g3.symm (f6 g2 i e' y2 g1)
      · rw [if_neg z1, if_neg y1] at g3
        exact (ct.2 i e' y2).2.2.2.2.2.1 g1 j e'' z2 g2 g3
  rw [k2, k3, k5, h6, h7]
  by_cases y : i = c
  · have : e' = e := by
      rw [y, ← hc, List.getElem?_append_right (Nat.le_refl _), Nat.sub_self] at he
      exact (Option.some.inj he).symm
    subst this
    rw [if_pos y, if_pos y, if_pos y]
    exact ⟨by rw [f1], f2.symm, f3, f4.symm, by rw [k4, if_pos y]; exact f5, vn, by rw [k4, if_pos y, y, ← hc, List.take_left]; exact f7⟩
  · have hi : i < nms.length := by
      have := (List.getElem?_eq_some_iff.mp he).1
      rw [List.length_append] at this
      simp at this
      omega
    rw [List.getElem?_append_left hi] at he
    rw [if_neg y, if_neg y, if_neg y]
    obtain ⟨t1, t2, t3, t4, t5, -, t7⟩ := ct.2 i e' he
    exact ⟨t1, t2, t3, t4, by rw [k4, if_neg y]; exact t5, vn, by rw [k4, if_neg y, List.take_append_of_le_length (Nat.le_of_lt hi)]; exact t7⟩
end TXI
end
section
/-! The class's reader of texts, exactly: what the words of a const's rule push. -/
section TXJ
variable {W pl nq E : Nat → Int} {Cf : Nat → Int × Int} {sm : Nat → Nat → Prop} {M M' : mM} {q r T A B D n c p V F : Nat} {ns : Nat → Int} {nms : List nm9}
/-- the words' values, those beyond the text 0 -/
noncomputable def cvn (W nq : Nat → Int) (sm : Nat → Nat → Prop) (nms : List nm9) (n : Nat) (v : Nat) : vrs := if v < n then cv9 W nq sm nms v else (0, 0, 1)
theorem vgd_0 {k : Int} (_ : k = 0 ∨ k = 1) : vgd k (0, 0, 1) := vgd_01.2
theorem lf_ex (wt : WTq M T A B D n W pl nq sm) (ec : ECq M r p n W nq sm nms c 1 E Cf) (ct : CT M r p nms) (hl : nms.length = c) (h9 : ∀ i, i < c → mI M (r + 9) i = 0 ∨ mI M (r + 9) i = 1) : ∀ k, (W k = 1 ∨ W k = 2 ∨ W k = 12 ∨ W k = 13) → (W k = 1 → E k ≠ -1) → Lfo M p W E (cvn W nq sm nms n) Cf k := by
  intro k hk hne
  obtain ⟨big, ec⟩ := ec
  obtain ⟨eE, ec⟩ := ec ct hl
  unfold Lfo cvn
  by_cases kn : k < n
  · rw [if_pos kn]
    obtain ⟨c2, c12, c13, c1⟩ := ec k kn
    unfold cv9
    rcases hk with h | h | h | h
    · obtain ⟨i, e, z1, z2, z3, z4, -⟩ := c1 h (hne h)
      have e1 : e.2.1 = 1 := z3.resolve_left (by decide)
      obtain ⟨t1, t2, t3, t4, t5, -⟩ := ct.2 i e z1
      obtain ⟨g1, x, g2, g3, g4, g5⟩ := t5 e1
      have hi : i < c := by rw [← hl]; exact (List.getElem?_eq_some_iff.mp z1).1
      have Ev : E k = e.2.2.1 := by
        rw [eE]
        unfold E9
        rw [z2]
        show (if (if (1 : Int) = 0 then (0 : Int) else 1) = 1 ∧ e.2.1 ≠ 1 then (-1 : Int) else e.2.2.1) = e.2.2.1
        rw [if_neg (fun y => y.2 e1)]
      rw [if_pos h, z2]
      refine ⟨?_, Or.inr ⟨?_, x, ?_, g3, g4, g5⟩⟩
      · have k01 := h9 i hi
        rw [t4] at k01
        by_cases y : E k = 1
        · rw [if_pos (Or.inr (Or.inr ⟨h, y⟩))]
          rw [← Ev, y] at g1
          exact g1
        · rw [if_neg (by omega)]
          have : e.2.2.1 = 0 := by omega
          rw [this] at g1
          exact g1
      · rw [z4, t2, e1]; rfl
      · rw [z4]; exact g2
    · rw [if_neg (by omega), if_pos h, if_neg (by omega)]
      obtain ⟨-, b1, b2⟩ := wt.2.1 k kn h
      refine ⟨Or.inl ⟨rfl, ?_, ⟨by simp, by simp⟩, ?_, fun u => absurd u (by decide)⟩, Or.inl ⟨by rw [c2 h], by rw [c2 h]⟩⟩
      · show (nq k).natAbs ≤ 999999999
        omega
      · show Int.gcd (nq k) 1 = 1
        exact Int.gcd_one
    · rw [if_pos (show W k = 12 ∨ W k = 13 ∨ (W k = 1 ∧ E k = 1) from Or.inl h), if_neg (show ¬ W k = 1 by first | rfl | omega), if_neg (show ¬ W k = 2 by first | rfl | omega), if_pos h]
      exact ⟨vgd_01.1, Or.inl ⟨by rw [c12 h], by rw [c12 h]⟩⟩
    · rw [if_pos (show W k = 12 ∨ W k = 13 ∨ (W k = 1 ∧ E k = 1) from Or.inr (Or.inl h)), if_neg (show ¬ W k = 1 by first | rfl | omega), if_neg (show ¬ W k = 2 by first | rfl | omega), if_neg (show ¬ W k = 12 by first | rfl | omega)]
      exact ⟨vgd_01.2, Or.inl ⟨by rw [c13 h], by rw [c13 h]⟩⟩
  · rw [if_neg kn]
    have cb := big k (by omega)
    refine ⟨?_, Or.inl ⟨by rw [cb], by rw [cb]⟩⟩
    split
    · exact vgd_0 (Or.inr rfl)
    · exact vgd_0 (Or.inl rfl)
/-- consts' values stay: a new one is put behind them -/
theorem CT.tab (ct : CT M (q + 1) p nms) (tn : TN M (q + 1) A n V F ns c) (hl : nms.length = c) (h19 : mI M' (q + 1) 19 = mI M (q + 1) 19) (h6 : mI M' (q + 1 + 6) = mI M (q + 1 + 6)) (h7 : mI M' (q + 1 + 7) = mI M (q + 1 + 7)) (h8 : mI M' (q + 1 + 8) = mI M (q + 1 + 8)) (h9 : mI M' (q + 1 + 9) = mI M (q + 1 + 9)) (p6 : ∀ i, i < F → mI M' (p + 6) i = mI M (p + 6) i) (p7 : ∀ i, i < F → mI M' (p + 7) i = mI M (p + 7) i) : CT M' (q + 1) p nms := by
  refine ⟨by rw [h19]; exact ct.1, fun i e z => ?_⟩
  obtain ⟨t1, t2, t3, t4, t5, t6⟩ := ct.2 i e z
  rw [h6, h7, h8, h9]
  refine ⟨t1, t2, t3, t4, fun e1 => ?_, t6⟩
  obtain ⟨g1, x, g2, g3, g4, g5⟩ := t5 e1
  have hi : i < c := by rw [← hl]; exact (List.getElem?_eq_some_iff.mp z).1
  have xF : x < F := by
    obtain ⟨-, u, -⟩ := tn.2.2 i hi
    rw [t2, e1] at u
    rcases u with u | u
    · exact absurd u.1 (by decide)
    · have := u.2.2.1; omega
  exact ⟨g1, x, g2, g3, by rw [p7 x xF]; exact g4, by rw [p6 x xF, p7 x xF]; exact g5⟩
end TXJ
end
end
