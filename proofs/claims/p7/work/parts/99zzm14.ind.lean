section
section
/-! Induction over a rule's words; a rule of consts has a sound value. -/
section EIN
variable {w : Nat → Int}
/-- c = 0 a rule, c = 1 a list of rules -/
def Eoc (w : Nat → Int) (c i j : Nat) : Prop := (c = 0 ∧ Eo w 6 i j) ∨ (c = 1 ∧ Eo w 7 i j)
theorem Eo_ind {P : Nat → Nat → Nat → Prop}
    (ask : ∀ i m q j : Nat, lo w i j = (m : Int) → i ≤ m → m < j → m < q → q < j → w m = 32 → w q = 33 → clq w m j = q → Eo w 6 i m → Eo w 6 (m + 1) q → Eo w 6 (q + 1) j → P 0 i m → P 0 (m + 1) q → P 0 (q + 1) j → P 0 i j)
    (bin : ∀ i m j : Nat, lo w i j = (m : Int) → i ≤ m → m < j → (18 ≤ w m ∧ w m ≤ 30) → Eo w 6 i m → Eo w 6 (m + 1) j → P 0 i m → P 0 (m + 1) j → P 0 i j)
    (par : ∀ i j : Nat, lo w i j = -1 → i < j → w i = 36 → w (j - 1) = 37 → Eo w 6 (i + 1) (j - 1) → P 0 (i + 1) (j - 1) → P 0 i j)
    (pre : ∀ i j : Nat, lo w i j = -1 → i < j → (w i = 25 ∨ w i = 31) → Eo w 6 (i + 1) j → P 0 (i + 1) j → P 0 i j)
    (leaf : ∀ i : Nat, lo w i (i + 1) = -1 → (w i = 1 ∨ w i = 2 ∨ w i = 12 ∨ w i = 13) → P 0 i (i + 1))
    (lst : ∀ i j : Nat, lo w i j = -1 → i < j → (w i = 14 ∨ w i = 15) → w (j - 1) = 37 → Eo w 7 (i + 2) (j - 1) → P 1 (i + 2) (j - 1) → P 0 i j)
    (one : ∀ i j : Nat, i < j → lcq w i (j - i) = 0 → Eo w 6 i j → P 0 i j → P 1 i j)
    (more : ∀ i m j : Nat, i < j → i ≤ m → m < j → lcq w i (j - i) = m - i + 1 → w m = 35 → Eo w 7 i m → Eo w 6 (m + 1) j → P 1 i m → P 0 (m + 1) j → P 1 i j) : ∀ (n c i j : Nat), 2 * (j - i) + c ≤ n → Eoc w c i j → P c i j := by
  intro n
  induction n with
  | zero =>
    intro c i j hn h
    rcases h with ⟨-, h⟩ | ⟨-, h⟩
    · have := h.pr.1; omega
    · have := h.pr.1; omega
  | succ n ih =>
    intro c i j hn h
    rcases h with ⟨rfl, h⟩ | ⟨rfl, h⟩
    · have hij := h.pr.1
      rcases h.sp with ⟨m, q, a1, a2, a3, a4, a5, a6⟩ | ⟨m, a1, a2, a3, a4⟩ | ⟨a1, a2, a3, a4⟩ | ⟨a1, a2, a3⟩ | ⟨a1, a2, a3⟩ | ⟨a1, a2, a3, a4, a5⟩
      · have l1 := a4.pr.1
        have l2 := a5.pr.1
        have l3 := a6.pr.1
        exact ask i m q j a1 (by omega) (by omega) (by omega) (by omega) a2 a3 (clq_eo a5 a3 (by omega)) (a4.one (by omega)) a5 a6 (ih 0 i m (by omega) (Or.inl ⟨rfl, a4.one (by omega)⟩)) (ih 0 (m + 1) q (by omega) (Or.inl ⟨rfl, a5⟩)) (ih 0 (q + 1) j (by omega) (Or.inl ⟨rfl, a6⟩))
      · have l1 := a3.pr.1
        have l2 := a4.pr.1
        exact bin i m j a1 (by omega) (by omega) (by omega) a3 a4 (ih 0 i m (by omega) (Or.inl ⟨rfl, a3⟩)) (ih 0 (m + 1) j (by omega) (Or.inl ⟨rfl, a4⟩))
      · have l1 := a4.pr.1
        exact par i j a1 hij a2 a3 a4 (ih 0 (i + 1) (j - 1) (by omega) (Or.inl ⟨rfl, a4⟩))
      · have l1 := a3.pr.1
        exact pre i j a1 hij a2 a3 (ih 0 (i + 1) j (by omega) (Or.inl ⟨rfl, a3⟩))
      · subst a2
        exact leaf i a1 a3
      · have l1 := a5.pr.1
        exact lst i j a1 hij a2 a4 a5 (ih 1 (i + 2) (j - 1) (by omega) (Or.inr ⟨rfl, a5⟩))
    · have hij := h.pr.1
      rcases h.lst with h6 | ⟨m, a1, a2, a3⟩
      · exact one i j hij (lcq_eo h6 (by omega)) h6 (ih 0 i j (by omega) (Or.inl ⟨rfl, h6⟩))
      · have l1 := a2.pr.1
        have l2 := a3.pr.1
        exact more i m j hij (by omega) (by omega) (lcq_7 a2 a1 a3) a1 a2 a3 (ih 1 i m (by omega) (Or.inr ⟨rfl, a2⟩)) (ih 0 (m + 1) j (by omega) (Or.inl ⟨rfl, a3⟩))
theorem fst9_1 {a b : Int × Int} : (fst9 a b).1 = 0 ↔ a.1 = 0 ∧ b.1 = 0 := by
  unfold fst9
  by_cases c : a.1 = 0
  · rw [if_pos c]; exact ⟨fun h => ⟨c, h⟩, fun h => h.2⟩
  · rw [if_neg c]; exact ⟨fun h => absurd h c, fun h => h.1⟩
theorem kft_1 {p : Prop} {x : Int} : (kft p x).1 = 0 ↔ p := by
  unfold kft
  by_cases c : p
  · rw [if_pos c]; exact ⟨fun _ => c, fun _ => rfl⟩
  · rw [if_neg c]; exact ⟨fun h => absurd h (by simp), fun h => absurd h c⟩
end EIN
/-- a sound result: k = 1 a truth -/
def vgd (k : Int) (v : vrs) : Prop := (v.1 = 0 ∧ v.2.1.natAbs ≤ 999999999 ∧ (1 ≤ v.2.2 ∧ v.2.2 ≤ 999999999) ∧ Int.gcd v.2.1 v.2.2 = 1 ∧ (k = 1 → (v.2.1 = 0 ∨ v.2.1 = 1) ∧ v.2.2 = 1)) ∨ (6 ≤ v.1 ∧ v.1 ≤ 8)
section VGD
theorem vgd_01 {k : Int} : vgd k (0, 1, 1) ∧ vgd k (0, 0, 1) := ⟨Or.inl ⟨rfl, by decide, by decide, by decide, fun _ => ⟨Or.inr rfl, rfl⟩⟩, Or.inl ⟨rfl, by decide, by decide, by decide, fun _ => ⟨Or.inl rfl, rfl⟩⟩⟩
theorem vgd_st {a b p : Int} (hb : 1 ≤ b) : vgd 0 (vst a b p) := by
  unfold vst
  have g0 : 0 < (Int.gcd a b : Int) := by
    have : 0 < Int.gcd a b := Int.gcd_pos_of_ne_zero_right _ (by omega)
    omega
  have gb : (Int.gcd a b : Int) ∣ b := Int.gcd_dvd_right a b
  have b1 : 1 ≤ b / (Int.gcd a b : Int) := (Int.le_ediv_iff_mul_le g0).mpr (by rw [Int.one_mul]; exact Int.le_of_dvd (by omega) gb)
  have gg : Int.gcd (a / (Int.gcd a b : Int)) (b / (Int.gcd a b : Int)) = 1 := Int.gcd_ediv_gcd_ediv_gcd_of_ne_zero_right (by omega)
  split
  · exact Or.inr ⟨by simp, by simp⟩
  · refine Or.inl ⟨rfl, ?_, ⟨b1, ?_⟩, gg, fun k => absurd k (by decide)⟩
    · show (a / (Int.gcd a b : Int)).natAbs ≤ 999999999
      omega
    · show b / (Int.gcd a b : Int) ≤ 999999999
      omega
theorem vgd_tr {k : Int} {p : Prop} [Decidable p] : vgd k (vtr p) := by
  unfold vtr
  split
  · exact vgd_01.1
  · exact vgd_01.2
theorem vgd_op {x a b c d p k : Int} (hb : 1 ≤ b ∧ b ≤ 999999999) (hd : 1 ≤ d ∧ d ≤ 999999999) (ha : a.natAbs ≤ 999999999) (hc : c.natAbs ≤ 999999999) (hk : k = 1 → x < 24 ∨ 28 < x) : vgd k (vop x a b c d p) := by
  have k0 : ∀ {v : vrs}, (24 ≤ x ∧ x ≤ 28) → vgd 0 v → vgd k v := fun {v} hx h => h.imp (fun q => ⟨q.1, q.2.1, q.2.2.1, q.2.2.2.1, fun e => by have := hk e; omega⟩) id
  have bd : 1 ≤ b * d := Int.mul_pos (show 0 < b by omega) (show 0 < d by omega)
  unfold vop
  by_cases c1 : x = 24
  · rw [if_pos c1]; exact k0 (by omega) (vgd_st bd)
  rw [if_neg c1]
  by_cases c2 : x = 25
  · rw [if_pos c2]; exact k0 (by omega) (vgd_st bd)
  rw [if_neg c2]
  by_cases c3 : x = 26
  · rw [if_pos c3]; exact k0 (by omega) (vgd_st bd)
  rw [if_neg c3]
  by_cases c4 : x = 27
  · rw [if_pos c4]
    by_cases e0 : c = 0
    · rw [if_pos e0]; exact Or.inr ⟨by simp, by simp⟩
    rw [if_neg e0]
    by_cases e1 : 0 < c
    · rw [if_pos e1]
      exact k0 (by omega) (vgd_st (Int.mul_pos (show 0 < b by omega) e1))
    · rw [if_neg e1]
      refine k0 (by omega) (vgd_st ?_)
      have := Int.mul_pos (show 0 < b by omega) (show 0 < -c by omega)
      rw [Int.mul_neg] at this
      omega
  rw [if_neg c4]
  by_cases c5 : x = 28
  · rw [if_pos c5]
    by_cases e0 : b ≠ 1 ∨ d ≠ 1
    · rw [if_pos e0]; exact Or.inr ⟨by simp, by simp⟩
    rw [if_neg e0]
    by_cases e1 : c ≤ 0
    · rw [if_pos e1]; exact Or.inr ⟨by simp, by simp⟩
    · rw [if_neg e1]
      have m1 := Int.emod_nonneg a (show c ≠ 0 by omega)
      have m2 := Int.emod_lt_of_pos a (show 0 < c by omega)
      refine k0 (by omega) (Or.inl ⟨rfl, ?_, ⟨Int.le_refl _, by simp⟩, ?_, fun u => absurd u (by decide)⟩)
      · show (a % c).natAbs ≤ 999999999
        omega
      · show Int.gcd (a % c) 1 = 1
        exact Int.gcd_one_right _
  rw [if_neg c5]
  split
  · exact vgd_tr
  split
  · exact vgd_tr
  split
  · exact vgd_tr
  split
  · exact vgd_tr
  split
  · exact vgd_tr
  · exact vgd_tr
theorem vgd_bs {k x a b c d : Int} (h1 : vgd k (0, a, b)) (h2 : vgd k (0, c, d)) : vgd k (vbs x a b c d) := by
  unfold vbs
  split <;> split
  · exact h2
  · exact h1
  · exact h2
  · exact h1
theorem vgd.bd {k : Int} {v : vrs} {f : Int → Int → vrs} {k' : Int} (h : vgd k v) (hf : ∀ a b, v = (0, a, b) → vgd k (0, a, b) → vgd k' (f a b)) : vgd k' (vbd v f) := by
  unfold vbd
  by_cases c : v.1 = 0
  · rw [if_pos c]
    refine hf _ _ (by rw [← c]) ?_
    rw [show (0, v.2.1, v.2.2) = v by rw [← c]]
    exact h
  · rw [if_neg c]
    rcases h with h | h
    · exact absurd h.1 c
    · exact Or.inr h
theorem vgd.n0 {k : Int} {v : vrs} (h : vgd k v) (k' : Int) (hk : k' ≠ 1) : vgd k' v := h.imp (fun q => ⟨q.1, q.2.1, q.2.2.1, q.2.2.2.1, fun e => absurd e hk⟩) id
/-- the value of a rule of consts is sound -/
theorem vl_ok {w E pl : Nat → Int} {cv : Nat → vrs} (hlf : ∀ k, (w k = 1 ∨ w k = 2 ∨ w k = 12 ∨ w k = 13) → (w k = 1 → E k ≠ -1) → vgd (if w k = 12 ∨ w k = 13 ∨ (w k = 1 ∧ E k = 1) then 1 else 0) (cv k)) : ∀ (n c i j : Nat), 2 * (j - i) + c ≤ n → Eoc w c i j → (fl w E pl c i j).1 = 0 → (c = 1 → kdq w E 1 i j ≠ 1) → ∀ x, vgd (kdq w E c i j) (vlq w cv pl c x i j) := by
  have n0 : ∀ {i j : Nat}, (0 : Nat) = 1 → kdq w E 1 i j ≠ 1 := fun u => absurd u (by decide)
  refine Eo_ind (P := fun c i j => (fl w E pl c i j).1 = 0 → (c = 1 → kdq w E 1 i j ≠ 1) → ∀ x, vgd (kdq w E c i j) (vlq w cv pl c x i j)) ?_ ?_ ?_ ?_ ?_ ?_ ?_ ?_
  · intro i m q j h1 h2 h3 h4 h5 h6 h7 h8 _ _ _ i1 i2 i3 hf hz x
    rw [fl_ask h1 h2 h3 h6 h8, fst9_1, fst9_1, fst9_1, kft_1] at hf
    obtain ⟨⟨⟨f1, f2⟩, f3⟩, k1, k2⟩ := hf
    rw [kd_ask h1 h2 h3 h6 h8, vl_ask h1 h2 h3 h6 h8]
    refine (i1 f1 n0 0).bd (fun a b _ _ => ?_)
    split
    · exact i3 f3 n0 0
    · rw [← k2]; exact i2 f2 n0 0
  · intro i m j h1 h2 h3 h4 _ _ i1 i2 hf hz x
    rw [fl_bin h1 h2 h3 (by omega), fst9_1, fst9_1, kft_1] at hf
    obtain ⟨⟨f1, f2⟩, k1⟩ := hf
    rw [kd_bin h1 h2 h3 (by omega)]
    have t1 : (w m = 29 ∨ w m = 30) → kdq w E 0 i m = 1 ∧ kdq w E 0 (m + 1) j = 1 := fun u => by unfold okq at k1; rw [if_pos u] at k1; exact k1
    have tr : (w m = 29 ∨ w m = 30) → tru (w m) := fun u => by unfold tru; omega
    by_cases c1 : w m = 29
    · rw [vl_and h1 h2 h3 c1, if_pos (tr (Or.inl c1))]
      obtain ⟨k1, k2⟩ := t1 (Or.inl c1)
      rw [k1] at i1
      rw [k2] at i2
      refine (i1 f1 n0 0).bd (fun a b _ g => ?_)
      split
      · exact g
      · exact i2 f2 n0 0
    by_cases c2 : w m = 30
    · rw [vl_or h1 h2 h3 c2, if_pos (tr (Or.inr c2))]
      obtain ⟨k1, k2⟩ := t1 (Or.inr c2)
      rw [k1] at i1
      rw [k2] at i2
      refine (i1 f1 n0 0).bd (fun a b _ g => ?_)
      split
      · exact i2 f2 n0 0
      · exact g
    · rw [vl_bin h1 h2 h3 (by omega) c1 c2]
      refine (i1 f1 n0 0).bd (fun a b _ g1 => (i2 f2 n0 0).bd (fun e f _ g2 => ?_))
      rcases g1 with ⟨-, a1, a2, -⟩ | ⟨a1, -⟩
      · rcases g2 with ⟨-, b1, b2, -⟩ | ⟨b1, -⟩
        · refine vgd_op a2 b2 a1 b1 (fun u => ?_)
          split at u
          · rename_i tt
            unfold tru at tt
            omega
          · exact absurd u (by decide)
        · exact absurd b1 (by simp)
      · exact absurd a1 (by simp)
  · intro i j h1 h2 h3 _ _ i1 hf hz x
    rw [fl_par h1 h2 h3] at hf
    rw [kd_par h1 h2 h3, vl_par h1 h2 h3]
    exact i1 hf n0 0
  · intro i j h1 h2 h3 _ i1 hf hz x
    rcases h3 with h3 | h3
    · rw [fl_neg h1 h2 h3, fst9_1, kft_1] at hf
      rw [kd_num h1 h2 (Or.inl h3), vl_neg h1 h2 h3]
      refine (i1 hf.1 n0 0).bd (fun a b _ g => ?_)
      rcases g with ⟨-, a1, a2, a3, -⟩ | ⟨a1, -⟩
      · refine Or.inl ⟨rfl, ?_, a2, ?_, fun u => absurd u (by decide)⟩
        · show (-a).natAbs ≤ 999999999
          rw [Int.natAbs_neg]; exact a1
        · show Int.gcd (-a) b = 1
          rw [Int.neg_gcd]; exact a3
      · exact absurd a1 (by simp)
    · rw [fl_not h1 h2 h3, fst9_1, kft_1] at hf
      rw [kd_tru h1 h2 (Or.inl h3), vl_not h1 h2 h3]
      rw [hf.2] at i1
      refine (i1 hf.1 n0 0).bd (fun a b _ g => ?_)
      rcases g with ⟨-, -, -, -, a3⟩ | ⟨a1, -⟩
      · obtain ⟨a4, a5⟩ := a3 rfl
        have a4 : a = 0 ∨ a = 1 := a4
        have a5 : b = 1 := a5
        subst a5
        rcases a4 with rfl | rfl
        · exact vgd_01.1
        · exact vgd_01.2
      · exact absurd a1 (by simp)
  · intro i h1 h3 hf hz x
    rw [fl_leaf h1 (by omega) h3] at hf
    have hne : w i = 1 → E i ≠ -1 := fun a b => by rw [if_pos ⟨a, b⟩] at hf; exact absurd hf (by simp)
    have hl := hlf i h3 hne
    rw [vl_leaf h1 (by omega) h3]
    rcases h3 with h3 | h3 | h3
    · rw [kd_nam h1 (by omega) h3]
      by_cases c : E i = 1
      · rw [if_pos (Or.inr (Or.inr ⟨h3, c⟩))] at hl
        rw [if_pos c]; exact hl
      · rw [if_neg (by omega)] at hl
        rw [if_neg c]; exact hl
    · rw [kd_num h1 (by omega) (Or.inr (Or.inl h3))]
      rw [if_neg (by omega)] at hl
      exact hl
    · rw [kd_tru h1 (by omega) (Or.inr h3)]
      rw [if_pos (by omega)] at hl
      exact hl
  · intro i j h1 h2 h3 _ _ i1 hf hz x
    rw [fl_lst h1 h2 h3, fst9_1, kft_1] at hf
    rw [kd_num h1 h2 (Or.inr (Or.inr h3)), vl_lst h1 h2 h3]
    have := i1 hf.1 (fun _ => by rw [hf.2]; decide) (w i)
    rw [hf.2] at this
    exact this
  · intro i j h1 h2 _ i1 hf hz x
    rw [fl_l1 h1 h2] at hf
    rw [kd_l1 h1 h2, vl_l1 h1 h2]
    exact i1 hf n0 0
  · intro i m j h1 h2 h3 h4 h5 _ _ i1 i2 hf hz x
    rw [fl_ln h1 h4 h2, fst9_1] at hf
    rw [kd_ln h1 h4 h2, vl_ln h1 h4 h2]
    have c : ¬ (kdq w E 1 i m = 1 ∨ kdq w E 0 (m + 1) j = 1) := fun c => hz rfl (by rw [kd_ln h1 h4 h2, if_pos c])
    rw [if_neg c]
    exact ((i1 hf.1 (fun _ u => c (Or.inl u)) x).n0 0 (by decide)).bd (fun a b _ g1 => ((i2 hf.2 n0 0).n0 0 (by decide)).bd (fun e f _ g2 => vgd_bs g1 g2))
end VGD
end
section
/-! The class's machine, exactly: the steps of run. -/
section RUX
variable {G : mG} {d z m U Ab0 Be0 C0 t c p O P K L i pc tt : Nat} {M0 M : mM} {Q : Int → mM → Prop} {a b : Int}
/-- program and machine of a run -/
def Rnv (M0 : mM) (z m Ab0 Be0 p O P K L : Nat) : Prop := PK M0 z p O P K ∧ mR M0 m 0 = p ∧ Mpr M0 z m p O P Ab0 Be0 ∧ mI M0 p 2 = L ∧ L ≤ K ∧ L ≤ 16384
theorem run_num (hE : Rnv M0 z m Ab0 Be0 p O P K L) (hpc : pc < L) (hi : i < 1000000) (hM : MS M0 z m U Ab0 Be0 C0 M t c) (ht : t ≤ 16384) (o : mI M0 O pc = 3) (next : ∀ M', MS M0 z m U Ab0 Be0 C0 M' (t + 1) c → mtq m M M' → plq M M' m t → ptq M' m t (mI M0 P pc) 1 → h_Ma_run_14 G (d + 3) m ((pc + 1 : Nat) : Int) ((i + 1 : Nat) : Int) M' Q) : h_Ma_run_14 G (d + 3) m (pc : Int) (i : Int) M Q := by
  obtain ⟨hp, hm0, ha, hL, hLK, hLn⟩ := hE
  obtain ⟨ok, k0, h8, kA, kB, tA, tB, bA, bB, hb, ⟨mA, mB⟩, ne⟩ := hM.pile
  obtain ⟨hp1, hr0, iO, iP, iT⟩ := hM.prog hp hm0 ha
  obtain ⟨pk, ⟨pr0, pr1⟩, ⟨kO, kP, nO, nP⟩, -, -, -, ⟨⟨-, -, -, p8, p9, -⟩, ⟨-, -, -, pk8, pk9, -⟩, ⟨-, -, -, pn8, pn9, -⟩⟩⟩ := id hp1
  have l2 : mI M p 2 = L := by rw [show p = p + 0 by first | rfl | omega, iT 0 (by omega)]; exact hL
  have no : ¬ ((1000000 : Int) ≤ (i : Int) ∨ ((pc : Int) < 0 ∨ mI M (mR M m 0) 2 ≤ (pc : Int))) := by rw [hr0, l2]; omega
  refine k_Ma_run_14 ok (i32s (by omega) (by omega)) ⟨by omega, by omega⟩ ⟨fun _ _ => ⟨k0, by rw [hr0]; exact pk⟩, fun y => absurd y no, fun _ => ?_⟩
  rw [hr0, pr0, pr1, p8, p9, pn8, pn9, nO, nP, iO, iP, Int.toNat_natCast, show ((i : Int) + 1) = ((i + 1 : Nat) : Int) by first | rfl | omega, show ((pc : Int) + 1) = ((pc + 1 : Nat) : Int) by first | rfl | omega]
  have i0 : i32 (mI M0 P pc) := by rw [← iP]; exact (ok _ _).1
  refine ⟨k0, pk, kO, by omega, kP, by omega, fun o0 => absurd o0 (by rw [o]; decide), fun _ => ⟨fun _ => (x_Ma_push hM ht i0 ⟨by omega, by omega⟩).mono (fun M' q => ⟨q.1.pile.1, next M' q.1 q.2.1 q.2.2.1 q.2.2.2⟩), fun o3 => absurd o o3⟩⟩
theorem run_cst {x : Nat} (hE : Rnv M0 z m Ab0 Be0 p O P K L) (hpc : pc < L) (hi : i < 1000000) (hM : MS M0 z m U Ab0 Be0 C0 M t c) (ht : t ≤ 16384) (o : mI M0 O pc = 4) (ox : mI M0 P pc = x) (hx : x < 60) (hv : 1 ≤ mI M0 (p + 7) x ∧ mI M0 (p + 7) x < 1000000000) (next : ∀ M', MS M0 z m U Ab0 Be0 C0 M' (t + 1) c → mtq m M M' → plq M M' m t → ptq M' m t (mI M0 (p + 6) x) (mI M0 (p + 7) x) → h_Ma_run_14 G (d + 3) m ((pc + 1 : Nat) : Int) ((i + 1 : Nat) : Int) M' Q) : h_Ma_run_14 G (d + 3) m (pc : Int) (i : Int) M Q := by
  obtain ⟨hp, hm0, ha, hL, hLK, hLn⟩ := hE
  obtain ⟨ok, k0, h8, kA, kB, tA, tB, bA, bB, hb, ⟨mA, mB⟩, ne⟩ := hM.pile
  obtain ⟨hp1, hr0, iO, iP, iT⟩ := hM.prog hp hm0 ha
  obtain ⟨pk, ⟨pr0, pr1⟩, ⟨kO, kP, nO, nP⟩, -, -, -, ⟨⟨-, -, -, p8, p9, -⟩, ⟨-, -, -, pk8, pk9, -⟩, ⟨-, -, -, pn8, pn9, -⟩⟩⟩ := id hp1
  have l2 : mI M p 2 = L := by rw [show p = p + 0 by first | rfl | omega, iT 0 (by omega)]; exact hL
  have no : ¬ ((1000000 : Int) ≤ (i : Int) ∨ ((pc : Int) < 0 ∨ mI M (mR M m 0) 2 ≤ (pc : Int))) := by rw [hr0, l2]; omega
  refine k_Ma_run_14 ok (i32s (by omega) (by omega)) ⟨by omega, by omega⟩ ⟨fun _ _ => ⟨k0, by rw [hr0]; exact pk⟩, fun y => absurd y no, fun _ => ?_⟩
  rw [hr0, pr0, pr1, p8, p9, pn8, pn9, nO, nP, iO, iP, Int.toNat_natCast, show ((i : Int) + 1) = ((i + 1 : Nat) : Int) by first | rfl | omega, show ((pc : Int) + 1) = ((pc + 1 : Nat) : Int) by first | rfl | omega]
  rw [ox, iT 6 (by omega), iT 7 (by omega), Int.toNat_natCast]
  have i0 : i32 (mI M0 (p + 6) x) := by rw [← iT 6 (by omega)]; exact (ok _ _).1
  refine ⟨k0, pk, kO, by omega, kP, by omega, fun o0 => absurd o0 (by rw [o]; decide), fun _ => ⟨fun o3 => absurd o3 (by rw [o]; decide), fun _ => ⟨fun _ => ⟨pk8, by omega, pk9, by omega, (x_Ma_push hM ht i0 hv).mono (fun M' q => ⟨q.1.pile.1, next M' q.1 q.2.1 q.2.2.1 q.2.2.2⟩)⟩, fun o4 => absurd o o4⟩⟩⟩
theorem run_jmp (hE : Rnv M0 z m Ab0 Be0 p O P K L) (hpc : pc < L) (hi : i < 1000000) (hM : MS M0 z m U Ab0 Be0 C0 M (t + 1) c) (o : mI M0 O pc = 30 ∨ mI M0 O pc = 31) (ot : mI M0 P pc = tt) (pt : ptq M m t a b) (yes : (mI M0 O pc = 30 ↔ a = 0) → ∀ M', MS M0 z m U Ab0 Be0 C0 M' (t + 1) c → mtq m M M' → plq M M' m (t + 1) → h_Ma_run_14 G (d + 3) m ((tt : Nat) : Int) ((i + 1 : Nat) : Int) M' Q) (nay : ¬ (mI M0 O pc = 30 ↔ a = 0) → ∀ M', MS M0 z m U Ab0 Be0 C0 M' t c → mtq m M M' → plq M M' m t → h_Ma_run_14 G (d + 3) m ((pc + 1 : Nat) : Int) ((i + 1 : Nat) : Int) M' Q) : h_Ma_run_14 G (d + 3) m (pc : Int) (i : Int) M Q := by
  obtain ⟨hp, hm0, ha, hL, hLK, hLn⟩ := hE
  obtain ⟨ok, k0, h8, kA, kB, tA, tB, bA, bB, hb, ⟨mA, mB⟩, ne⟩ := hM.pile
  obtain ⟨hp1, hr0, iO, iP, iT⟩ := hM.prog hp hm0 ha
  obtain ⟨pk, ⟨pr0, pr1⟩, ⟨kO, kP, nO, nP⟩, -, -, -, ⟨⟨-, -, -, p8, p9, -⟩, ⟨-, -, -, pk8, pk9, -⟩, ⟨-, -, -, pn8, pn9, -⟩⟩⟩ := id hp1
  have l2 : mI M p 2 = L := by rw [show p = p + 0 by first | rfl | omega, iT 0 (by omega)]; exact hL
  have no : ¬ ((1000000 : Int) ≤ (i : Int) ∨ ((pc : Int) < 0 ∨ mI M (mR M m 0) 2 ≤ (pc : Int))) := by rw [hr0, l2]; omega
  refine k_Ma_run_14 ok (i32s (by omega) (by omega)) ⟨by omega, by omega⟩ ⟨fun _ _ => ⟨k0, by rw [hr0]; exact pk⟩, fun y => absurd y no, fun _ => ?_⟩
  rw [hr0, pr0, pr1, p8, p9, pn8, pn9, nO, nP, iO, iP, Int.toNat_natCast, show ((i : Int) + 1) = ((i + 1 : Nat) : Int) by first | rfl | omega, show ((pc : Int) + 1) = ((pc + 1 : Nat) : Int) by first | rfl | omega]
  have q1 : Int.toNat (mI M m 8 - 1) = t := by omega
  rw [q1, pt.1, ot]
  refine ⟨k0, pk, kO, by omega, kP, by omega, fun o0 => absurd o0 (by omega), fun _ => ⟨fun o3 => absurd o3 (by omega), fun _ => ⟨fun o4 => absurd o4 (by omega), fun _ => ⟨fun o5 => absurd o5 (by omega), fun _ => ⟨fun o7 => absurd o7 (by omega), fun _ => ⟨fun _ => ⟨kA, by omega, fun v61 e61 v67 e67 v73 e73 v79 e79 v83 e83 => ?_⟩, fun o30 => absurd o o30⟩⟩⟩⟩⟩⟩
  have hv : v73 = 0 ↔ ¬ (mI M0 O pc = 30 ↔ a = 0) := by
    by_cases u : a = 0 <;> by_cases v : mI M0 O pc = 30 <;> simp only [u, v, if_true, if_false] at e61 e67 <;> subst e61 e67 <;> simp [u, v, e73]
  clear e73 e61 e67
  by_cases y : v73 = 0
  · rw [if_pos y] at e79 e83
    refine ⟨by rw [e83]; exact ⟨by omega, by omega⟩, fun M87 e87 => ?_⟩
    have w := ms_top (t' := t) hM (by omega) (by omega) e87
    rw [e79]
    exact nay (hv.mp y) M87 w.1 (mtq.fi w.2.2) (plq.fi w.2.2 ⟨mA, mB⟩)
  · rw [if_neg y] at e79 e83
    refine ⟨by rw [e83]; exact ⟨by omega, by omega⟩, fun M87 e87 => ?_⟩
    have w := ms_top (t' := t + 1) hM (by omega) (by omega) e87
    rw [e79]
    exact yes (Classical.byContradiction (fun u => y (hv.mpr u))) M87 w.1 (mtq.fi w.2.2) (plq.fi w.2.2 ⟨mA, mB⟩)
theorem run_ask (hE : Rnv M0 z m Ab0 Be0 p O P K L) (hpc : pc < L) (hi : i < 1000000) (hM : MS M0 z m U Ab0 Be0 C0 M (t + 1) c) (o : mI M0 O pc = 33) (ot : mI M0 P pc = tt) (pt : ptq M m t a b) (yes : a = 0 → ∀ M', MS M0 z m U Ab0 Be0 C0 M' t c → mtq m M M' → plq M M' m t → h_Ma_run_14 G (d + 3) m ((tt : Nat) : Int) ((i + 1 : Nat) : Int) M' Q) (nay : a ≠ 0 → ∀ M', MS M0 z m U Ab0 Be0 C0 M' t c → mtq m M M' → plq M M' m t → h_Ma_run_14 G (d + 3) m ((pc + 1 : Nat) : Int) ((i + 1 : Nat) : Int) M' Q) : h_Ma_run_14 G (d + 3) m (pc : Int) (i : Int) M Q := by
  obtain ⟨hp, hm0, ha, hL, hLK, hLn⟩ := hE
  obtain ⟨ok, k0, h8, kA, kB, tA, tB, bA, bB, hb, ⟨mA, mB⟩, ne⟩ := hM.pile
  obtain ⟨hp1, hr0, iO, iP, iT⟩ := hM.prog hp hm0 ha
  obtain ⟨pk, ⟨pr0, pr1⟩, ⟨kO, kP, nO, nP⟩, -, -, -, ⟨⟨-, -, -, p8, p9, -⟩, ⟨-, -, -, pk8, pk9, -⟩, ⟨-, -, -, pn8, pn9, -⟩⟩⟩ := id hp1
  have l2 : mI M p 2 = L := by rw [show p = p + 0 by first | rfl | omega, iT 0 (by omega)]; exact hL
  have no : ¬ ((1000000 : Int) ≤ (i : Int) ∨ ((pc : Int) < 0 ∨ mI M (mR M m 0) 2 ≤ (pc : Int))) := by rw [hr0, l2]; omega
  refine k_Ma_run_14 ok (i32s (by omega) (by omega)) ⟨by omega, by omega⟩ ⟨fun _ _ => ⟨k0, by rw [hr0]; exact pk⟩, fun y => absurd y no, fun _ => ?_⟩
  rw [hr0, pr0, pr1, p8, p9, pn8, pn9, nO, nP, iO, iP, Int.toNat_natCast, show ((i : Int) + 1) = ((i + 1 : Nat) : Int) by first | rfl | omega, show ((pc : Int) + 1) = ((pc + 1 : Nat) : Int) by first | rfl | omega]
  rw [ot]
  refine ⟨k0, pk, kO, by omega, kP, by omega, fun o0 => absurd o0 (by omega), fun _ => ⟨fun o3 => absurd o3 (by omega), fun _ => ⟨fun o4 => absurd o4 (by omega), fun _ => ⟨fun o5 => absurd o5 (by omega), fun _ => ⟨fun o7 => absurd o7 (by omega), fun _ => ⟨fun o30 => absurd o30 (by omega), fun _ => ⟨fun _ => ⟨⟨by omega, by omega⟩, fun M96 e96 => ?_⟩, fun o33 => absurd o o33⟩⟩⟩⟩⟩⟩⟩
  have w := ms_top (t' := t) hM (by omega) (by omega) e96
  have pq : plq M M96 m (t + 1) := plq.fi w.2.2 ⟨mA, mB⟩
  have pt' := pq.pt (by omega) pt
  obtain ⟨ok6, k06, h86, kA6, kB6, tA6, -⟩ := w.1.pile
  have lA : mN M96 (mR M96 m 6) = mN M (mR M m 6) := by rw [w.2.2.2.1, w.2.2.2.2.1]
  rw [h86, lA, Int.toNat_natCast, pt'.1]
  refine ⟨kA6, by omega, fun v101 e101 => ?_⟩
  by_cases y : a = 0
  · rw [if_pos y] at e101
    rw [e101]
    exact yes y M96 w.1 (mtq.fi w.2.2) (pq.mono (by omega))
  · rw [if_neg y] at e101
    rw [e101]
    exact nay y M96 w.1 (mtq.fi w.2.2) (pq.mono (by omega))
theorem run_els (hE : Rnv M0 z m Ab0 Be0 p O P K L) (hpc : pc < L) (hi : i < 1000000) (hM : MS M0 z m U Ab0 Be0 C0 M t c) (o : mI M0 O pc = 42) (ot : mI M0 P pc = tt) (next : h_Ma_run_14 G (d + 3) m ((tt : Nat) : Int) ((i + 1 : Nat) : Int) M Q) : h_Ma_run_14 G (d + 3) m (pc : Int) (i : Int) M Q := by
  obtain ⟨hp, hm0, ha, hL, hLK, hLn⟩ := hE
  obtain ⟨ok, k0, h8, kA, kB, tA, tB, bA, bB, hb, ⟨mA, mB⟩, ne⟩ := hM.pile
  obtain ⟨hp1, hr0, iO, iP, iT⟩ := hM.prog hp hm0 ha
  obtain ⟨pk, ⟨pr0, pr1⟩, ⟨kO, kP, nO, nP⟩, -, -, -, ⟨⟨-, -, -, p8, p9, -⟩, ⟨-, -, -, pk8, pk9, -⟩, ⟨-, -, -, pn8, pn9, -⟩⟩⟩ := id hp1
  have l2 : mI M p 2 = L := by rw [show p = p + 0 by first | rfl | omega, iT 0 (by omega)]; exact hL
  have no : ¬ ((1000000 : Int) ≤ (i : Int) ∨ ((pc : Int) < 0 ∨ mI M (mR M m 0) 2 ≤ (pc : Int))) := by rw [hr0, l2]; omega
  refine k_Ma_run_14 ok (i32s (by omega) (by omega)) ⟨by omega, by omega⟩ ⟨fun _ _ => ⟨k0, by rw [hr0]; exact pk⟩, fun y => absurd y no, fun _ => ?_⟩
  rw [hr0, pr0, pr1, p8, p9, pn8, pn9, nO, nP, iO, iP, Int.toNat_natCast, show ((i : Int) + 1) = ((i + 1 : Nat) : Int) by first | rfl | omega, show ((pc : Int) + 1) = ((pc + 1 : Nat) : Int) by first | rfl | omega]
  rw [ot]
  exact ⟨k0, pk, kO, by omega, kP, by omega, fun o0 => absurd o0 (by omega), fun _ => ⟨fun o3 => absurd o3 (by omega), fun _ => ⟨fun o4 => absurd o4 (by omega), fun _ => ⟨fun o5 => absurd o5 (by omega), fun _ => ⟨fun o7 => absurd o7 (by omega), fun _ => ⟨fun o30 => absurd o30 (by omega), fun _ => ⟨fun o33 => absurd o33 (by omega), fun _ => ⟨fun _ => next, fun o42 => absurd o o42⟩⟩⟩⟩⟩⟩⟩⟩
theorem run_cmp {v : vrs} {k : Nat} (hE : Rnv M0 z m Ab0 Be0 p O P K L) (hpc : pc < L) (hi : i < 1000000) (hM : MS M0 z m U Ab0 Be0 C0 M t c) (o : mI M0 O pc = 15 ∨ mI M0 O pc = 16 ∨ (19 ≤ mI M0 O pc ∧ mI M0 O pc ≤ 29) ∨ mI M0 O pc = 40 ∨ mI M0 O pc = 41) (hc : i32 (mI M0 O pc) → i32 (mI M0 P pc) → Ci G y_Ma_compute (d + 3) [vr m, vi (mI M0 O pc), vi (mI M0 P pc)] M (cpx M0 z m U Ab0 Be0 C0 M k c v)) (next : v.1 = 0 → ∀ M', MS M0 z m U Ab0 Be0 C0 M' (k + 1) c → mtq m M M' → plq M M' m k → ptq M' m k v.2.1 v.2.2 → h_Ma_run_14 G (d + 3) m ((pc + 1 : Nat) : Int) ((i + 1 : Nat) : Int) M' Q) (flt : v.1 ≠ 0 → ∀ M', mI M' m 1 = v.1 → mI M' m 2 = v.2.1 → (∃ t2, MS M0 z m U Ab0 Be0 C0 M' t2 c) → mtq m M M' → Q 0 M') : h_Ma_run_14 G (d + 3) m (pc : Int) (i : Int) M Q := by
  obtain ⟨hp, hm0, ha, hL, hLK, hLn⟩ := hE
  obtain ⟨ok, k0, h8, kA, kB, tA, tB, bA, bB, hb, ⟨mA, mB⟩, ne⟩ := hM.pile
  obtain ⟨hp1, hr0, iO, iP, iT⟩ := hM.prog hp hm0 ha
  obtain ⟨pk, ⟨pr0, pr1⟩, ⟨kO, kP, nO, nP⟩, -, -, -, ⟨⟨-, -, -, p8, p9, -⟩, ⟨-, -, -, pk8, pk9, -⟩, ⟨-, -, -, pn8, pn9, -⟩⟩⟩ := id hp1
  have l2 : mI M p 2 = L := by rw [show p = p + 0 by first | rfl | omega, iT 0 (by omega)]; exact hL
  have no : ¬ ((1000000 : Int) ≤ (i : Int) ∨ ((pc : Int) < 0 ∨ mI M (mR M m 0) 2 ≤ (pc : Int))) := by rw [hr0, l2]; omega
  refine k_Ma_run_14 ok (i32s (by omega) (by omega)) ⟨by omega, by omega⟩ ⟨fun _ _ => ⟨k0, by rw [hr0]; exact pk⟩, fun y => absurd y no, fun _ => ?_⟩
  rw [hr0, pr0, pr1, p8, p9, pn8, pn9, nO, nP, iO, iP, Int.toNat_natCast, show ((i : Int) + 1) = ((i + 1 : Nat) : Int) by first | rfl | omega, show ((pc : Int) + 1) = ((pc + 1 : Nat) : Int) by first | rfl | omega]
  have io : i32 (mI M0 O pc) := by rw [← iO]; exact (ok _ _).1
  have ix : i32 (mI M0 P pc) := by rw [← iP]; exact (ok _ _).1
  refine ⟨k0, pk, kO, by omega, kP, by omega, fun o0 => absurd o0 (by omega), fun _ => ⟨fun o3 => absurd o3 (by omega), fun _ => ⟨fun o4 => absurd o4 (by omega), fun _ => ⟨fun o5 => absurd o5 (by omega), fun _ => ⟨fun o7 => absurd o7 (by omega), fun _ => ⟨fun o30 => absurd o30 (by omega), fun _ => ⟨fun o33 => absurd o33 (by omega), fun _ => ⟨fun o42 => absurd o42 (by omega), fun _ => (hc io ix).mono (fun r M' q => ?_)⟩⟩⟩⟩⟩⟩⟩⟩
  obtain ⟨q1, q2⟩ := q
  rcases q1 with ⟨e1, w0, w1, w2, t2, w3⟩ | ⟨e1, w0, w1, w2, w3⟩
  · rw [e1]
    exact ⟨i32s (by omega) (by omega), w3.pile.1, fun _ => flt w0 M' w1 w2 ⟨t2, w3⟩ q2, fun u => absurd rfl u⟩
  · rw [e1]
    exact ⟨i32s (by omega) (by omega), w1.pile.1, fun u => absurd u (by decide), fun _ => next w0 M' w1 q2 w2 w3⟩
end RUX
end
end
section
section
/-! The class's machine, exactly: run over the orders of a rule. -/
section RUY
variable {G : mG} {d z m U Ab0 Be0 C0 cc p O P K L : Nat} {M0 : mM} {w E pl : Nat → Int} {cv : Nat → vrs} {ec : Nat → Int × Int}
theorem vbd_0 {v : vrs} {f : Int → Int → vrs} (h : v.1 = 0) : vbd v f = f v.2.1 v.2.2 := if_pos h
theorem vbd_1 {v : vrs} {f : Int → Int → vrs} (h : v.1 ≠ 0) : vbd v f = v := if_neg h
/-- what a leaf's order pushes -/
def Lfo (M0 : mM) (p : Nat) (w E : Nat → Int) (cv : Nat → vrs) (ec : Nat → Int × Int) (k : Nat) : Prop := vgd (if w k = 12 ∨ w k = 13 ∨ (w k = 1 ∧ E k = 1) then 1 else 0) (cv k) ∧ (((ec k).1 = 3 ∧ cv k = (0, (ec k).2, 1)) ∨ ((ec k).1 = 4 ∧ ∃ x : Nat, (ec k).2 = x ∧ x < 60 ∧ (1 ≤ mI M0 (p + 7) x ∧ mI M0 (p + 7) x < 1000000000) ∧ cv k = (0, mI M0 (p + 6) x, mI M0 (p + 7) x)))
/-- how a rule's orders run: v its value, c9 calls are open -/
def Rcp (G : mG) (d : Nat) (M0 : mM) (z m U Ab0 Be0 C0 cc : Nat) (v : vrs) (s e : Nat) : Prop := ∀ (t i : Nat) (M : mM) (Q : Int → mM → Prop), t + (e - s) ≤ 16384 → i + (e - s) ≤ 1000000 → MS M0 z m U Ab0 Be0 C0 M t cc →
  (∀ (M' : mM) (i' : Nat), v.1 = 0 → i' ≤ i + (e - s) → MS M0 z m U Ab0 Be0 C0 M' (t + 1) cc → mtq m M M' → plq M M' m t → ptq M' m t v.2.1 v.2.2 → h_Ma_run_14 G (d + 3) m (e : Int) (i' : Int) M' Q) →
  (∀ M' : mM, v.1 ≠ 0 → mI M' m 1 = v.1 → mI M' m 2 = v.2.1 → (∃ t2, MS M0 z m U Ab0 Be0 C0 M' t2 cc) → mtq m M M' → Q 0 M') → h_Ma_run_14 G (d + 3) m (s : Int) (i : Int) M Q
theorem vgd.un {k : Int} {v : vrs} (h : vgd k v) (h0 : v.1 = 0) : v.2.1.natAbs ≤ 999999999 ∧ (1 ≤ v.2.2 ∧ v.2.2 ≤ 999999999) ∧ Int.gcd v.2.1 v.2.2 = 1 := by
  rcases h with h | h
  · exact ⟨h.2.1, h.2.2.1, h.2.2.2.1⟩
  · omega
/-- two values and an order -/
theorem rcp_two {v1 v2 : vrs} {k1 k2 : Int} {s a b : Nat} (hF : FMx G) (hE : Rnv M0 z m Ab0 Be0 p O P K L) (hsa : s < a) (hab : a < b) (hb : b + 1 ≤ L) (o : mI M0 O b = 15 ∨ mI M0 O b = 16 ∨ (19 ≤ mI M0 O b ∧ mI M0 O b ≤ 29)) (g1 : vgd k1 v1) (g2 : vgd k2 v2) (r1 : Rcp G d M0 z m U Ab0 Be0 C0 cc v1 s a) (r2 : Rcp G d M0 z m U Ab0 Be0 C0 cc v2 a b) : Rcp G d M0 z m U Ab0 Be0 C0 cc (vbd v1 (fun x1 y1 => vbd v2 (fun x2 y2 => v2q (mI M0 O b) x1 y1 x2 y2 (mI M0 P b)))) s (b + 1) := by
  intro t i M Q ht hi hM next flt
  refine r1 t i M Q (by omega) (by omega) hM (fun M1 i1 z1 l1 h1 b1 p1 t1 => ?_) (fun M1 z1 e1 e2 h1 b1 => ?_)
  · rw [vbd_0 z1] at next flt
    refine r2 (t + 1) i1 M1 Q (by omega) (by omega) h1 (fun M2 i2 z2 l2 h2 b2 p2 t2 => ?_) (fun M2 z2 e1 e2 h2 b2 => ?_)
    · rw [vbd_0 z2] at next flt
      obtain ⟨x1, x2, x3⟩ := g1.un z1
      obtain ⟨y1, y2, y3⟩ := g2.un z2
      refine run_cmp hE (by omega) (by omega) h2 (by omega) (fun io ix => x_Ma_compute2 (s := t) hF io ix o h2 (p2.pt (by omega) t1) t2 x1 y1 x3 y3) (fun z3 M3 h3 b3 p3 t3 => ?_) (fun z3 M3 e1 e2 h3 b3 => ?_)
      · exact next M3 (i2 + 1) z3 (by omega) h3 ((b1.trans b2).trans b3) ((p1.trans (p2.mono (by omega))).trans p3) t3
      · exact flt M3 z3 e1 e2 h3 ((b1.trans b2).trans b3)
    · rw [vbd_1 z2] at flt
      exact flt M2 z2 e1 e2 h2 (b1.trans b2)
  · rw [vbd_1 z1] at flt
    exact flt M1 z1 e1 e2 h1 b1
theorem run_all (hF : FMx G) (hE : Rnv M0 z m Ab0 Be0 p O P K L) (hlf : ∀ k, (w k = 1 ∨ w k = 2 ∨ w k = 12 ∨ w k = 13) → (w k = 1 → E k ≠ -1) → Lfo M0 p w E cv ec k) : ∀ (n c i j : Nat), 2 * (j - i) + c ≤ n → Eoc w c i j → (fl w E pl c i j).1 = 0 → (c = 1 → kdq w E 1 i j ≠ 1) → ∀ (x y x' : Int) (s e : Nat), (c = 1 → x = x' + 1 ∧ (x = 15 ∨ x = 16)) → Cd w ec pl (mI M0 O) (mI M0 P) c x y i j s e → e ≤ L → Rcp G d M0 z m U Ab0 Be0 C0 cc (vlq w cv pl c x' i j) s e := by
  have vok := vl_ok (w := w) (E := E) (pl := pl) (cv := cv) (fun k h1 h2 => (hlf k h1 h2).1)
  have n0 : ∀ {i j : Nat}, (0 : Nat) = 1 → kdq w E 1 i j ≠ 1 := fun u => absurd u (by decide)
  have m0 : ∀ {x x' : Int}, (0 : Nat) = 1 → x = x' + 1 ∧ (x = 15 ∨ x = 16) := fun u => absurd u (by decide)
  refine Eo_ind (P := fun c i j => (fl w E pl c i j).1 = 0 → (c = 1 → kdq w E 1 i j ≠ 1) → ∀ (x y x' : Int) (s e : Nat), (c = 1 → x = x' + 1 ∧ (x = 15 ∨ x = 16)) → Cd w ec pl (mI M0 O) (mI M0 P) c x y i j s e → e ≤ L → Rcp G d M0 z m U Ab0 Be0 C0 cc (vlq w cv pl c x' i j) s e) ?_ ?_ ?_ ?_ ?_ ?_ ?_ ?_
  · intro i m1 q j h1 h2 h3 h4 h5 h6 h7 h8 _ _ _ i1 i2 i3 hf _ x y x' s e _ hc he
    rw [fl_ask h1 h2 h3 h6 h8, fst9_1, fst9_1, fst9_1] at hf
    obtain ⟨⟨⟨f1, f2⟩, f3⟩, -⟩ := hf
    rw [Cd_ask h1 h2 h3 h6 h8] at hc
    obtain ⟨a, b, c1, o1, p1, c2, o2, p2, c3⟩ := hc
    have l1 := c1.lt
    have l2 := c2.lt
    have l3 := c3.lt
    rw [vl_ask h1 h2 h3 h6 h8]
    intro t k M Q ht hk hM next flt
    refine i1 f1 n0 0 0 0 s a m0 c1 (by omega) t k M Q (by omega) (by omega) hM (fun M1 k1 z1 l1 g1 b1 p1' t1 => ?_) (fun M1 z1 e1 e2 g1 b1 => ?_)
    · rw [vbd_0 z1] at next flt
      refine run_ask (tt := b + 1) hE (by omega) (by omega) g1 o1 (by rw [p1]; omega) t1 (fun az M2 g2 b2 p2' => ?_) (fun az M2 g2 b2 p2' => ?_)
      · rw [if_pos az] at next flt
        exact i3 f3 n0 0 0 0 (b + 1) e m0 c3 he t (k1 + 1) M2 Q (by omega) (by omega) g2 (fun M3 k3 z3 l3 g3 b3 p3 t3 => next M3 k3 z3 (by omega) g3 ((b1.trans b2).trans b3) ((p1'.trans p2').trans p3) t3) (fun M3 z3 e1 e2 g3 b3 => flt M3 z3 e1 e2 g3 ((b1.trans b2).trans b3))
      · rw [if_neg az] at next flt
        refine i2 f2 n0 0 0 0 (a + 1) b m0 c2 (by omega) t (k1 + 1) M2 Q (by omega) (by omega) g2 (fun M3 k3 z3 l3 g3 b3 p3 t3 => ?_) (fun M3 z3 e1 e2 g3 b3 => flt M3 z3 e1 e2 g3 ((b1.trans b2).trans b3))
        exact run_els (tt := e) hE (by omega) (by omega) g3 o2 p2 (next M3 (k3 + 1) z3 (by omega) g3 ((b1.trans b2).trans b3) ((p1'.trans p2').trans p3) t3)
    · rw [vbd_1 z1] at flt
      exact flt M1 z1 e1 e2 g1 b1
  · intro i m1 j h1 h2 h3 h4 eo1 eo2 i1 i2 hf _ x y x' s e _ hc he
    rw [fl_bin h1 h2 h3 (by omega), fst9_1, fst9_1] at hf
    obtain ⟨⟨f1, f2⟩, -⟩ := hf
    by_cases c29 : w m1 = 29 ∨ w m1 = 30
    · rw [Cd_jmp h1 h2 h3 c29] at hc
      obtain ⟨a, c1, o1, p1, c2⟩ := hc
      have l1 := c1.lt
      have l2 := c2.lt
      intro t k M Q ht hk hM next flt
      refine i1 f1 n0 0 0 0 s a m0 c1 (by omega) t k M Q (by omega) (by omega) hM (fun M1 k1 z1 l1 g1 b1 p1' t1 => ?_) (fun M1 z1 e1 e2 g1 b1 => ?_)
      · refine run_jmp (tt := e) hE (by omega) (by omega) g1 (by omega) p1 t1 (fun yy M2 g2 b2 p2' => ?_) (fun yy M2 g2 b2 p2' => ?_)
        · have ev : vlq w cv pl 0 x' i j = (0, (vlq w cv pl 0 0 i m1).2.1, (vlq w cv pl 0 0 i m1).2.2) := by
            rcases c29 with c | c
            · rw [vl_and h1 h2 h3 c, vbd_0 z1, if_pos (yy.mp (by omega))]
            · rw [vl_or h1 h2 h3 c, vbd_0 z1, if_neg (fun u => absurd (yy.mpr u) (by omega))]
          rw [ev] at next
          exact next M2 (k1 + 1) rfl (by omega) g2 (b1.trans b2) (p1'.trans (p2'.mono (by omega))) (p2'.pt (by omega) t1)
        · have ev : vlq w cv pl 0 x' i j = vlq w cv pl 0 0 (m1 + 1) j := by
            rcases c29 with c | c
            · rw [vl_and h1 h2 h3 c, vbd_0 z1, if_neg (fun u => yy ⟨fun _ => u, fun _ => by omega⟩)]
            · rw [vl_or h1 h2 h3 c, vbd_0 z1, if_pos (Classical.byContradiction (fun u => yy ⟨fun v => absurd v (by omega), fun v => absurd v u⟩))]
          rw [ev] at next flt
          exact i2 f2 n0 0 0 0 (a + 1) e m0 c2 he t (k1 + 1) M2 Q (by omega) (by omega) g2 (fun M3 k3 z3 l3 g3 b3 p3 t3 => next M3 k3 z3 (by omega) g3 ((b1.trans b2).trans b3) ((p1'.trans p2').trans p3) t3) (fun M3 z3 e1 e2 g3 b3 => flt M3 z3 e1 e2 g3 ((b1.trans b2).trans b3))
      · have ev : vlq w cv pl 0 x' i j = vlq w cv pl 0 0 i m1 := by
          rcases c29 with c | c
          · rw [vl_and h1 h2 h3 c, vbd_1 z1]
          · rw [vl_or h1 h2 h3 c, vbd_1 z1]
        rw [ev] at flt
        exact flt M1 z1 e1 e2 g1 b1
    · rw [Cd_bin h1 h2 h3 (by omega) (by omega) (by omega)] at hc
      obtain ⟨a, b, c1, c2, rfl, o1, p1⟩ := hc
      have l1 := c1.lt
      have l2 := c2.lt
      have g1 := vok _ 0 i m1 (Nat.le_refl _) (Or.inl ⟨rfl, eo1⟩) f1 n0 0
      have g2 := vok _ 0 (m1 + 1) j (Nat.le_refl _) (Or.inl ⟨rfl, eo2⟩) f2 n0 0
      have r := rcp_two hF hE l1 l2 he (by omega) g1 g2 (i1 f1 n0 0 0 0 s a m0 c1 (by omega)) (i2 f2 n0 0 0 0 a b m0 c2 (by omega))
      rw [vl_bin h1 h2 h3 (by omega) (by omega) (by omega)]
      have ev : ∀ x1 y1 x2 y2 : Int, v2q (mI M0 O b) x1 y1 x2 y2 (mI M0 P b) = vop (w m1) x1 y1 x2 y2 (pl m1) := fun x1 y1 x2 y2 => by
        unfold v2q
        rw [if_neg (by omega), o1, p1, show w m1 + 1 - 1 = w m1 by first | rfl | omega]
      simp only [ev] at r
      exact r
  · intro i j h1 h2 h3 _ _ i1 hf _ x y x' s e _ hc he
    rw [fl_par h1 h2 h3] at hf
    rw [Cd_par h1 h2 h3] at hc
    rw [vl_par h1 h2 h3]
    exact i1 hf n0 0 0 0 s e m0 hc he
  · intro i j h1 h2 h3 eo1 i1 hf _ x y x' s e _ hc he
    rw [Cd_pre h1 h2 h3] at hc
    obtain ⟨b, c1, rfl, o1, p1⟩ := hc
    have l1 := c1.lt
    have f1 : (fl w E pl 0 (i + 1) j).1 = 0 := by
      rcases h3 with h3 | h3
      · rw [fl_neg h1 h2 h3, fst9_1] at hf; exact hf.1
      · rw [fl_not h1 h2 h3, fst9_1] at hf; exact hf.1
    have g1 := vok _ 0 (i + 1) j (Nat.le_refl _) (Or.inl ⟨rfl, eo1⟩) f1 n0 0
    have ev : vlq w cv pl 0 x' i j = vbd (vlq w cv pl 0 0 (i + 1) j) (fun a b => if w i = 25 then (0, -a, b) else (0, 1 - a, b)) := by
      rcases h3 with h3 | h3
      · rw [vl_neg h1 h2 h3]; simp only [h3, if_true]
      · rw [vl_not h1 h2 h3]; simp only [h3, Int.reduceEq, if_false]
    rw [ev]
    intro t k M Q ht hk hM next flt
    refine i1 f1 n0 0 0 0 s b m0 c1 (by omega) t k M Q (by omega) (by omega) hM (fun M1 k1 z1 l1 g1' b1 p1' t1 => ?_) (fun M1 z1 e1 e2 g1' b1 => ?_)
    · rw [vbd_0 z1] at next flt
      have oo : mI M0 O b = 40 ∨ mI M0 O b = 41 := by rw [o1]; split <;> simp
      have o25 : mI M0 O b = 40 ↔ w i = 25 := by rw [o1]; split <;> simp_all
      refine run_cmp hE (by omega) (by omega) g1' (by omega) (fun io ix => x_Ma_compute1 (x := mI M0 P b) io ix oo g1' t1 (g1.un z1).1) (fun z3 M3 h3 b3 p3 t3 => ?_) (fun z3 M3 e1 e2 h3 b3 => ?_)
      · simp only [o25] at t3
        exact next M3 (k1 + 1) (by split <;> rfl) (by omega) h3 (b1.trans b3) (p1'.trans p3) t3
      · exact absurd (by split <;> rfl) z3
    · rw [vbd_1 z1] at flt
      exact flt M1 z1 e1 e2 g1' b1
  · intro i h1 h3 hf _ x y x' s e _ hc he
    rw [fl_leaf h1 (by omega) h3] at hf
    have hne : w i = 1 → E i ≠ -1 := fun a b => by rw [if_pos ⟨a, b⟩] at hf; exact absurd hf (by simp)
    obtain ⟨-, hl⟩ := hlf i h3 hne
    rw [Cd_leaf h1 (by omega) h3] at hc
    obtain ⟨rfl, o1, p1⟩ := hc
    rw [vl_leaf h1 (by omega) h3]
    intro t k M Q ht hk hM next flt
    rcases hl with ⟨q1, q2⟩ | ⟨q1, xx, q2, q3, q4, q5⟩
    · rw [q2] at next
      refine run_num hE (by omega) (by omega) hM (by omega) (by rw [o1]; exact q1) (fun M1 g1 b1 p1' t1 => next M1 (k + 1) rfl (by omega) g1 b1 p1' (by rw [← p1]; exact t1))
    · rw [q5] at next
      exact run_cst hE (by omega) (by omega) hM (by omega) (by rw [o1]; exact q1) (by rw [p1]; exact q2) q3 q4 (fun M1 g1 b1 p1' t1 => next M1 (k + 1) rfl (by omega) g1 b1 p1' t1)
  · intro i j h1 h2 h3 _ _ i1 hf _ x y x' s e _ hc he
    rw [fl_lst h1 h2 h3, fst9_1, kft_1] at hf
    rw [Cd_lst h1 h2 h3] at hc
    rw [vl_lst h1 h2 h3]
    exact i1 hf.1 (fun _ => by rw [hf.2]; decide) (w i + 1) (pl i) (w i) s e (fun _ => ⟨rfl, by omega⟩) hc he
  · intro i j h1 h2 _ i1 hf _ x y x' s e _ hc he
    rw [fl_l1 h1 h2] at hf
    rw [Cd_l1 h1 h2] at hc
    rw [vl_l1 h1 h2]
    exact i1 hf n0 0 0 0 s e m0 hc he
  · intro i m1 j h1 h2 h3 h4 h5 eo1 eo2 i1 i2 hf hz x y x' s e hx hc he
    obtain ⟨hx1, hx2⟩ := hx rfl
    rw [fl_ln h1 h4 h2, fst9_1] at hf
    have cz : ¬ (kdq w E 1 i m1 = 1 ∨ kdq w E 0 (m1 + 1) j = 1) := fun c => hz rfl (by rw [kd_ln h1 h4 h2, if_pos c])
    rw [Cd_ln h1 h4 h2] at hc
    obtain ⟨a, b, c1, c2, rfl, o1, p1⟩ := hc
    have l1 := c1.lt
    have l2 := c2.lt
    have z1 : (1 : Nat) = 1 → kdq w E 1 i m1 ≠ 1 := fun _ u => cz (Or.inl u)
    have g1 := vok _ 1 i m1 (Nat.le_refl _) (Or.inr ⟨rfl, eo1⟩) hf.1 z1 x'
    have g2 := vok _ 0 (m1 + 1) j (Nat.le_refl _) (Or.inl ⟨rfl, eo2⟩) hf.2 n0 0
    have r := rcp_two hF hE l1 l2 he (by omega) g1 g2 (i1 hf.1 z1 x y x' s a (fun _ => ⟨hx1, hx2⟩) c1 (by omega)) (i2 hf.2 n0 0 0 0 a b m0 c2 (by omega))
    rw [vl_ln h1 h4 h2]
    have ev : ∀ x1 y1 x2 y2 : Int, v2q (mI M0 O b) x1 y1 x2 y2 (mI M0 P b) = vbs x' x1 y1 x2 y2 := fun x1 y1 x2 y2 => by
      unfold v2q
      rw [if_pos (by omega), o1, show x - 1 = x' by first | rfl | omega]
    simp only [ev] at r
    exact r
theorem run_end {M : mM} {t i pc : Nat} {Q : Int → mM → Prop} (hE : Rnv M0 z m Ab0 Be0 p O P K L) (hpc : pc < L) (hi : i < 1000000) (hM : MS M0 z m U Ab0 Be0 C0 M t 0) (o : mI M0 O pc = 0) (fin : Q 1 M) : h_Ma_run_14 G (d + 3) m (pc : Int) (i : Int) M Q := by
  obtain ⟨hp, hm0, ha, hL, hLK, hLn⟩ := hE
  obtain ⟨ok, k0, h8, -⟩ := hM.pile
  obtain ⟨hp1, hr0, iO, iP, iT⟩ := hM.prog hp hm0 ha
  obtain ⟨pk, ⟨pr0, pr1⟩, ⟨kO, kP, nO, nP⟩, -⟩ := id hp1
  have l2 : mI M p 2 = L := by rw [show p = p + 0 by first | rfl | omega, iT 0 (by omega)]; exact hL
  have no : ¬ ((1000000 : Int) ≤ (i : Int) ∨ ((pc : Int) < 0 ∨ mI M (mR M m 0) 2 ≤ (pc : Int))) := by rw [hr0, l2]; omega
  have h15 : mI M m 15 = 0 := by
    obtain ⟨_, _, _, -, -, -, -, -, -, h15, -⟩ := id hM
    exact h15
  refine k_Ma_run_14 ok (i32s (by omega) (by omega)) ⟨by omega, by omega⟩ ⟨fun _ _ => ⟨k0, by rw [hr0]; exact pk⟩, fun y => absurd y no, fun _ => ?_⟩
  rw [hr0, pr0, pr1, nO, nP, iO, iP, Int.toNat_natCast]
  exact ⟨k0, pk, kO, by omega, kP, by omega, fun _ => ⟨fun _ => fin, fun u => absurd h15 u⟩, fun u => absurd o u⟩
/-- what a rule of consts comes to -/
def rnx (m : Nat) (v : vrs) (r : Int) (M' : mM) : Prop := (r = 0 ∧ v.1 ≠ 0 ∧ mI M' m 1 = v.1 ∧ mI M' m 2 = v.2.1) ∨ (r = 1 ∧ v.1 = 0 ∧ ptq M' m 0 v.2.1 v.2.2)
theorem x_Ma_run {X : Nat → Prop} {i j s e : Nat} (hF : FMx G) (ok : mOk M0) (hk : MK M0 z m U Ab0 Be0 C0) (hT : MT M0 m X) (hE : Rnv M0 z m Ab0 Be0 p O P K L) (hlf : ∀ k, (w k = 1 ∨ w k = 2 ∨ w k = 12 ∨ w k = 13) → (w k = 1 → E k ≠ -1) → Lfo M0 p w E cv ec k) (eo : Eo w 6 i j) (hf : (fl w E pl 0 i j).1 = 0) (hc : Cd w ec pl (mI M0 O) (mI M0 P) 0 0 0 i j s e) (he : e < L) (oe : mI M0 O e = 0) : Ci G y_Ma_run (d + 4) [vr m, vi s] M0 (fun r M' => rnQ M0 z m U Ab0 Be0 C0 X 1 r M' ∧ rnx m (vlq w cv pl 0 0 i j) r M') := by
  have c64 := hk.2.2.2.2.2.2.2
  have hLn := hE.2.2.2.2.2
  have lse := hc.lt
  refine k_Ma_run ok (i32s (by omega) (by omega)) ⟨hk.1, fun M2 e2 M4 e4 => ?_⟩
  have f2 : FI (fun b => b = m) M0 M2 := by rw [e2]; exact FI.ui rfl
  have f4 : FI (fun b => b = m) M2 M4 := by rw [e4]; exact FI.ui rfl
  have ff := f2.trans f4
  have g : ∀ i, mI M4 m i = if i = 15 then 0 else if i = 8 then 0 else mI M0 m i := fun i => by
    rw [mI_ui m i e4]
    by_cases y : i = 15
    · rw [if_pos ⟨rfl, y⟩, if_pos y]
    · rw [if_neg (fun q => y q.2), if_neg y, mI_ui m i e2]
      by_cases y8 : i = 8
      · rw [if_pos ⟨rfl, y8⟩, if_pos y8]
      · rw [if_neg (fun q => y8 q.2), if_neg y8]
  have o4 : mOk M4 := by rw [e4]; exact mOk_UI (by rw [e2]; exact mOk_UI ok (i32s (by omega) (by omega))) (i32s (by omega) (by omega))
  have hM : MS M0 z m U Ab0 Be0 C0 M4 0 0 := ms_step (M := M0) (t' := 0) (c' := 0) o4 hk FA.refl ⟨Or.inl rfl, Or.inl rfl⟩ ⟨rfl, Nat.le_refl _⟩ ⟨rfl, rfl, rfl⟩ (ff.mono (fun _ q => Or.inl q)) (by rw [g, if_neg (by decide), if_neg (by decide)]) (by rw [g, if_neg (by decide), if_neg (by decide)]) (by rw [g, if_neg (by decide), if_pos rfl]; rfl) (by omega) (fun j hj => absurd hj (by omega)) (by rw [g, if_pos rfl]; rfl)
  have hb : mtq m M0 M4 := mtq.fi ff
  have hT4 : MT M4 m X := hT.mtb hb.mtb (by rw [g, if_neg (by decide), if_neg (by decide)])
  refine run_all (cv := cv) hF hE hlf _ 0 i j (Nat.le_refl _) (Or.inl ⟨rfl, eo⟩) hf (fun u => absurd u (by decide)) 0 0 0 s e (fun u => absurd u (by decide)) hc (by omega) 0 0 M4 _ (by omega) (by omega) hM (fun M' i' z1 l1 h1 b1 _ t1 => ?_) (fun M' z1 e1 e2 h1 b1 => ?_)
  · exact run_end hE he (by omega) h1 oe ⟨⟨hT4.mtb b1.mtb (by rw [h1.nine, hM.nine]), Or.inr ⟨rfl, h1⟩⟩, Or.inr ⟨rfl, z1, t1⟩⟩
  · obtain ⟨t2, h2⟩ := h1
    exact ⟨⟨hT4.mtb b1.mtb (by rw [h2.nine, hM.nine]), Or.inl ⟨rfl, by rw [e1]; exact z1, t2, 0, h2⟩⟩, Or.inl ⟨rfl, z1, e1, e2⟩⟩
end RUY
end
section
/-! What a text of items means: pure. w kinds of words, pl places, nq numbers, sm words with the same letters, N how many words. -/
/-- a name: its word, its sort (1 const, 2 formula, 3 var), its kind (1 a truth), a const's value -/
abbrev nm9 : Type := Nat × Nat × Int × vrs
/-- names; how many vars, rules, commands, targets; the first fault -/
abbrev st9 : Type := List nm9 × (Nat × Nat × Nat × Nat) × (Int × Int)
section ITP
variable (w pl nq : Nat → Int) (sm : Nat → Nat → Prop) (N : Nat)
noncomputable def fnd9 (nms : List nm9) (k : Nat) : Option nm9 := nms.find? (fun e => @decide (sm e.1 k) (Classical.propDecidable _))
/-- the kind of the word k as a name; co = 1: consts alone; -1: unknown -/
noncomputable def E9 (nms : List nm9) (co : Int) (k : Nat) : Int := match fnd9 sm nms k with
  | none => -1
  | some e => if co = 1 ∧ e.2.1 ≠ 1 then -1 else e.2.2.1
/-- what the word k is worth -/
noncomputable def cv9 (nms : List nm9) (k : Nat) : vrs := if w k = 1 then (match fnd9 sm nms k with
  | none => (0, 0, 1)
  | some e => e.2.2.2) else if w k = 2 then (0, nq k, 1) else if w k = 12 then (0, 1, 1) else (0, 0, 1)
/-- the fault of a rule that must be a truth (tr = 1) or a number (tr = 0) -/
noncomputable def rf9 (nms : List nm9) (co tr : Int) (i j : Nat) : Int × Int := fst9 (fl w (E9 sm nms co) pl 0 i j) (kft (kdq w (E9 sm nms co) 0 i j = tr) (pl i))
/-- the first x from k on, within f words -/
def nxq (x : Int) : Nat → Nat → Nat
  | 0, k => k
  | f + 1, k => if w k = x then k else nxq x f (k + 1)
/-- the ')' that closes what begins at i -/
def cp1 (i : Nat) : Nat → Nat → Nat
  | 0, m => m
  | f + 1, m => if dp w i m = 0 ∧ w (i + m) = 37 then m else cp1 i f (m + 1)
def cpq (i j : Nat) : Nat := i + cp1 w i (j - i) 0
/-- a const's value, a whole one if it must be one: fault or (0, value) -/
def wh9 (v : vrs) (p : Int) : Int × Int := if v.1 ≠ 0 then (v.1, v.2.1) else if v.2.2 ≠ 1 then (8, p) else (0, 0)
/-- a const or a formula -/
noncomputable def itr (k e : Nat) (s : st9) : st9 :=
  let co : Int := if w k = 3 then 1 else 0
  let f := fl w (E9 sm s.1 co) pl 0 (k + 3) e
  let v : vrs := if w k = 3 then vlq w (cv9 w nq sm s.1) pl 0 0 (k + 3) e else (0, 0, 1)
  if s.2.1.2.1 = 60 then (s.1, s.2.1, (5, pl k))
  else if fnd9 sm s.1 (k + 1) ≠ none then (s.1, s.2.1, (2, pl (k + 1)))
  else if f.1 ≠ 0 then (s.1, s.2.1, f)
  else if v.1 ≠ 0 then (s.1, s.2.1, (v.1, v.2.1))
  else (s.1 ++ [(k + 1, (if w k = 3 then 1 else 2), kdq w (E9 sm s.1 co) 0 (k + 3) e, v)], (s.2.1.1, s.2.1.2.1 + 1, s.2.1.2.2), (0, 0))
/-- a var: the faults of its rules -/
noncomputable def vf9 (nms : List nm9) (k e rg ini : Nat) : Int × Int := fst9 (fst9 (if w (k + 3) = 5 then (0, 0) else fst9 (rf9 w pl sm nms 1 0 (k + 3) rg) (rf9 w pl sm nms 1 0 (rg + 1) ini)) (if w ini = 9 then rf9 w pl sm nms 1 (if w (k + 3) = 5 then 1 else 0) (ini + 1) e else (0, 0))) (0, 0)
/-- a var: the faults of its values -/
noncomputable def vw9 (nms : List nm9) (k e rg ini : Nat) : Int × Int :=
  let lo := vlq w (cv9 w nq sm nms) pl 0 0 (k + 3) rg
  let hi := vlq w (cv9 w nq sm nms) pl 0 0 (rg + 1) ini
  let be := vlq w (cv9 w nq sm nms) pl 0 0 (ini + 1) e
  fst9 (if w (k + 3) = 5 then (0, 0) else fst9 (fst9 (wh9 lo (pl (k + 3))) (wh9 hi (pl (rg + 1)))) (if lo.2.1 ≤ hi.2.1 ∧ hi.2.1 - lo.2.1 < 10000 then (0, 0) else (9, pl (rg + 1))))
    (if w ini = 9 then (if w (k + 3) = 5 then wh9 be (pl (ini + 1)) else fst9 (wh9 be (pl (ini + 1))) (if lo.2.1 ≤ be.2.1 ∧ be.2.1 ≤ hi.2.1 then (0, 0) else (9, pl (ini + 1)))) else (0, 0))
noncomputable def itv (k e : Nat) (s : st9) : st9 :=
  let rg := nxq w 16 N (k + 3)
  let ini := if w (k + 3) = 5 then k + 4 else nxq w 9 (e - (k + 3)) (k + 3)
  if s.2.1.1 = 12 then (s.1, s.2.1, (5, pl k))
  else if fnd9 sm s.1 (k + 1) ≠ none then (s.1, s.2.1, (2, pl (k + 1)))
  else if (vf9 w pl sm s.1 k e rg ini).1 ≠ 0 then (s.1, s.2.1, vf9 w pl sm s.1 k e rg ini)
  else if (vw9 w pl nq sm s.1 k e rg ini).1 ≠ 0 then (s.1, s.2.1, vw9 w pl nq sm s.1 k e rg ini)
  else (s.1 ++ [(k + 1, 3, (if w (k + 3) = 5 then 1 else 0), (0, 0, 1))], (s.2.1.1 + 1, s.2.1.2), (0, 0))
noncomputable def itt (k e : Nat) (s : st9) : st9 :=
  let f := rf9 w pl sm s.1 0 1 (k + 1) e
  if s.2.1.2.2.2 ≠ 0 then (s.1, s.2.1, (4, pl k))
  else if f.1 ≠ 0 then (s.1, s.2.1, f)
  else (s.1, (s.2.1.1, s.2.1.2.1, s.2.1.2.2.1, 1), (0, 0))
/-- the sets of a branch, from k on: the first fault, and where they end -/
noncomputable def sef (nms : List nm9) : Nat → Nat → List Nat → (Int × Int) × Nat
  | 0, k, _ => ((0, 0), k)
  | f + 1, k, seen => match fnd9 sm nms (k + 1) with
    | none => ((2, pl (k + 1)), k)
    | some e => if e.2.1 ≠ 3 then ((2, pl (k + 1)), k) else if e.1 ∈ seen then ((4, pl (k + 1)), k)
      else if (rf9 w pl sm nms 0 e.2.2.1 (k + 4) (cpq w (k + 4) N)).1 ≠ 0 then (rf9 w pl sm nms 0 e.2.2.1 (k + 4) (cpq w (k + 4) N), k)
      else if w (cpq w (k + 4) N + 1) = 29 then sef nms f (cpq w (k + 4) N + 2) (e.1 :: seen) else ((0, 0), cpq w (k + 4) N + 1)
/-- the branches of a command, from the word i on; b have been read; the item ends at e -/
noncomputable def brf (nms : List nm9) (e : Nat) : Nat → Nat → Nat → Int × Int
  | 0, _, _ => (0, 0)
  | f + 1, i, b => if e ≤ i then (0, 0) else if b = 8 then (5, pl i)
    else if (rf9 w pl sm nms 0 0 i (clq w (i - 1) N)).1 ≠ 0 then rf9 w pl sm nms 0 0 i (clq w (i - 1) N)
    else if w (clq w (i - 1) N + 1) = 10 then brf nms e f (clq w (i - 1) N + 3) (b + 1)
    else if (sef w pl sm N nms N (clq w (i - 1) N + 1) []).1.1 ≠ 0 then (sef w pl sm N nms N (clq w (i - 1) N + 1) []).1
    else brf nms e f ((sef w pl sm N nms N (clq w (i - 1) N + 1) []).2 + 1) (b + 1)
/-- a command; mc how many there may be -/
noncomputable def itc (mc k e : Nat) (s : st9) : st9 :=
  let ar := nxq w 17 N (k + 1)
  let f := fst9 (rf9 w pl sm s.1 0 1 (k + 1) ar) (brf w pl sm N s.1 e N (ar + 1) 0)
  if s.2.1.2.2.1 = mc then (s.1, s.2.1, (5, pl k))
  else if f.1 ≠ 0 then (s.1, s.2.1, f)
  else (s.1, (s.2.1.1, s.2.1.2.1, s.2.1.2.2.1 + 1, s.2.1.2.2.2), (0, 0))
/-- the item at k -/
noncomputable def ite9 (mc k : Nat) (s : st9) : st9 :=
  let e := nxq w 34 N k
  if w k = 3 ∨ w k = 6 then itr w pl nq sm k e s else if w k = 4 then itv w pl nq sm N k e s else if w k = 11 then itt w pl sm k e s else itc w pl sm N mc k e s
/-- all items from k on -/
noncomputable def its9 (mc : Nat) : Nat → Nat → st9 → st9
  | 0, _, s => s
  | f + 1, k, s => if s.2.2.1 ≠ 0 then s else if w k = 0 then (if s.2.1.2.2.2 = 0 then (s.1, s.2.1, (10, pl k)) else s) else its9 mc f (nxq w 34 N k + 1) (ite9 w pl nq sm N mc k s)
end ITP
section ITQ
variable {w pl nq : Nat → Int} {sm : Nat → Nat → Prop} {N : Nat}
theorem nxq_at {x : Int} : ∀ {f k e : Nat}, k ≤ e → e ≤ k + f → w e = x → (∀ j, k ≤ j → j < e → w j ≠ x) → nxq w x f k = e
  | 0, k, e, h1, h2, _, _ => by show k = e; omega
  | f + 1, k, e, h1, h2, h3, h4 => by
    unfold nxq
    by_cases c : k = e
    · subst c
      rw [if_pos h3]
    · rw [if_neg (h4 k (Nat.le_refl _) (by omega))]
      exact nxq_at (by omega) (by omega) h3 (fun j a b => h4 j (by omega) b)
theorem nxq_no {x : Int} : ∀ {f k : Nat}, (∀ j, k ≤ j → j < k + f → w j ≠ x) → nxq w x f k = k + f
  | 0, k, _ => rfl
  | f + 1, k, h => by
    unfold nxq
    rw [if_neg (h k (Nat.le_refl _) (by omega)), nxq_no (fun j a b => h j (by omega) (by omega))]
    omega
theorem cp1_at {i l : Nat} (b : Bl w i l) (h : w (i + l) = 37) : ∀ f m, m ≤ l → l ≤ m + f → cp1 w i f m = l
  | 0, m, h1, h2 => by show m = l; omega
  | f + 1, m, h1, h2 => by
    unfold cp1
    by_cases e : m = l
    · rw [if_pos ⟨by rw [e]; exact b.1, by rw [e]; exact h⟩]; exact e
    · rw [if_neg]
      · exact cp1_at b h f (m + 1) (by omega) (by omega)
      · intro ⟨q1, q2⟩
        have := (b.2.2.1 (m + 1) (by omega)).1
        rw [dp_s, q1, if_neg (by omega), if_pos q2] at this
        omega
theorem cpq_at {i j N : Nat} (he : Eo w 6 i j) (h : w j = 37) (hj : j < N) : cpq w i N = j := by
  have p := he.pr
  have := p.1
  unfold cpq
  rw [cp1_at (l := j - i) p.2.2.2.2.1 (by rw [show i + (j - i) = j by first | rfl | omega]; exact h) _ _ (by omega) (by omega)]
  omega
end ITQ
end
end
section
section
/-! A rule's value depends on its words' values alone. -/
section VCG
variable {w E pl : Nat → Int} {cv cv' : Nat → vrs}
theorem vl_cg (hc : ∀ k, (w k = 1 ∨ w k = 2 ∨ w k = 12 ∨ w k = 13) → (w k = 1 → E k ≠ -1) → cv k = cv' k) : ∀ (n c i j : Nat), 2 * (j - i) + c ≤ n → Eoc w c i j → (fl w E pl c i j).1 = 0 → ∀ x, vlq w cv pl c x i j = vlq w cv' pl c x i j := by
  refine Eo_ind (P := fun c i j => (fl w E pl c i j).1 = 0 → ∀ x, vlq w cv pl c x i j = vlq w cv' pl c x i j) ?_ ?_ ?_ ?_ ?_ ?_ ?_ ?_
  · intro i m q j h1 h2 h3 h4 h5 h6 h7 h8 _ _ _ i1 i2 i3 hf x
    rw [fl_ask h1 h2 h3 h6 h8, fst9_1, fst9_1, fst9_1] at hf
    obtain ⟨⟨⟨f1, f2⟩, f3⟩, -⟩ := hf
    rw [vl_ask h1 h2 h3 h6 h8, vl_ask h1 h2 h3 h6 h8, i1 f1 0, i2 f2 0, i3 f3 0]
  · intro i m j h1 h2 h3 h4 _ _ i1 i2 hf x
    rw [fl_bin h1 h2 h3 (by omega), fst9_1, fst9_1] at hf
    obtain ⟨⟨f1, f2⟩, -⟩ := hf
    by_cases c1 : w m = 29
    · rw [vl_and h1 h2 h3 c1, vl_and h1 h2 h3 c1, i1 f1 0, i2 f2 0]
    by_cases c2 : w m = 30
    · rw [vl_or h1 h2 h3 c2, vl_or h1 h2 h3 c2, i1 f1 0, i2 f2 0]
    · rw [vl_bin h1 h2 h3 (by omega) c1 c2, vl_bin h1 h2 h3 (by omega) c1 c2, i1 f1 0, i2 f2 0]
  · intro i j h1 h2 h3 _ _ i1 hf x
    rw [fl_par h1 h2 h3] at hf
    rw [vl_par h1 h2 h3, vl_par h1 h2 h3]
    exact i1 hf 0
  · intro i j h1 h2 h3 _ i1 hf x
    rcases h3 with h3 | h3
    · rw [fl_neg h1 h2 h3, fst9_1] at hf
      rw [vl_neg h1 h2 h3, vl_neg h1 h2 h3, i1 hf.1 0]
    · rw [fl_not h1 h2 h3, fst9_1] at hf
      rw [vl_not h1 h2 h3, vl_not h1 h2 h3, i1 hf.1 0]
  · intro i h1 h3 hf x
    rw [fl_leaf h1 (by omega) h3] at hf
    have hne : w i = 1 → E i ≠ -1 := fun a b => by rw [if_pos ⟨a, b⟩] at hf; exact absurd hf (by simp)
    rw [vl_leaf h1 (by omega) h3, vl_leaf h1 (by omega) h3]
    exact hc i h3 hne
  · intro i j h1 h2 h3 _ _ i1 hf x
    rw [fl_lst h1 h2 h3, fst9_1] at hf
    rw [vl_lst h1 h2 h3, vl_lst h1 h2 h3]
    exact i1 hf.1 (w i)
  · intro i j h1 h2 _ i1 hf x
    rw [fl_l1 h1 h2] at hf
    rw [vl_l1 h1 h2, vl_l1 h1 h2]
    exact i1 hf 0
  · intro i m j h1 h2 h3 h4 h5 _ _ i1 i2 hf x
    rw [fl_ln h1 h4 h2, fst9_1] at hf
    rw [vl_ln h1 h4 h2, vl_ln h1 h4 h2, i1 hf.1 x, i2 hf.2 0]
theorem vl_cg0 {i j : Nat} (hc : ∀ k, (w k = 1 ∨ w k = 2 ∨ w k = 12 ∨ w k = 13) → (w k = 1 → E k ≠ -1) → cv k = cv' k) (he : Eo w 6 i j) (hf : (fl w E pl 0 i j).1 = 0) : vlq w cv pl 0 0 i j = vlq w cv' pl 0 0 i j := vl_cg hc _ 0 i j (Nat.le_refl _) (Or.inl ⟨rfl, he⟩) hf 0
end VCG
end
section
/-! A rule's value depends on the values of its own words alone. -/
section VCI
variable {w pl : Nat → Int} {cv cv' : Nat → vrs}
theorem vl_ci : ∀ (n c i j : Nat), 2 * (j - i) + c ≤ n → Eoc w c i j → (∀ k, i ≤ k → k < j → cv k = cv' k) → ∀ x, vlq w cv pl c x i j = vlq w cv' pl c x i j := by
  refine Eo_ind (P := fun c i j => (∀ k, i ≤ k → k < j → cv k = cv' k) → ∀ x, vlq w cv pl c x i j = vlq w cv' pl c x i j) ?_ ?_ ?_ ?_ ?_ ?_ ?_ ?_
  · intro i m q j h1 h2 h3 h4 h5 h6 h7 h8 _ _ _ i1 i2 i3 hc x
    rw [vl_ask h1 h2 h3 h6 h8, vl_ask h1 h2 h3 h6 h8, i1 (fun k a b => hc k a (by omega)) 0, i2 (fun k a b => hc k (by omega) (by omega)) 0, i3 (fun k a b => hc k (by omega) b) 0]
  · intro i m j h1 h2 h3 h4 _ _ i1 i2 hc x
    have i1 := i1 (fun k a b => hc k a (by omega))
    have i2 := i2 (fun k a b => hc k (by omega) b)
    by_cases c1 : w m = 29
    · rw [vl_and h1 h2 h3 c1, vl_and h1 h2 h3 c1, i1 0, i2 0]
    by_cases c2 : w m = 30
    · rw [vl_or h1 h2 h3 c2, vl_or h1 h2 h3 c2, i1 0, i2 0]
    · rw [vl_bin h1 h2 h3 (by omega) c1 c2, vl_bin h1 h2 h3 (by omega) c1 c2, i1 0, i2 0]
  · intro i j h1 h2 h3 _ _ i1 hc x
    rw [vl_par h1 h2 h3, vl_par h1 h2 h3]
    exact i1 (fun k a b => hc k (by omega) (by omega)) 0
  · intro i j h1 h2 h3 _ i1 hc x
    have i1 := i1 (fun k a b => hc k (by omega) b)
    rcases h3 with h3 | h3
    · rw [vl_neg h1 h2 h3, vl_neg h1 h2 h3, i1 0]
    · rw [vl_not h1 h2 h3, vl_not h1 h2 h3, i1 0]
  · intro i h1 h3 hc x
    rw [vl_leaf h1 (by omega) h3, vl_leaf h1 (by omega) h3]
    exact hc i (Nat.le_refl _) (by omega)
  · intro i j h1 h2 h3 _ _ i1 hc x
    rw [vl_lst h1 h2 h3, vl_lst h1 h2 h3]
    exact i1 (fun k a b => hc k (by omega) (by omega)) (w i)
  · intro i j h1 h2 _ i1 hc x
    rw [vl_l1 h1 h2, vl_l1 h1 h2]
    exact i1 hc 0
  · intro i m j h1 h2 h3 h4 h5 _ _ i1 i2 hc x
    rw [vl_ln h1 h4 h2, vl_ln h1 h4 h2, i1 (fun k a b => hc k a (by omega)) x, i2 (fun k a b => hc k (by omega) b) 0]
theorem vl_ci0 {i j : Nat} (hc : ∀ k, i ≤ k → k < j → cv k = cv' k) (he : Eo w 6 i j) : vlq w cv pl 0 0 i j = vlq w cv' pl 0 0 i j := vl_ci _ 0 i j (Nat.le_refl _) (Or.inl ⟨rfl, he⟩) hc 0
end VCI
end
end
section
section
/-! What the words of a text are worth in a state: pure. -/
section EXQ
variable (w pl nq : Nat → Int) (sm : Nat → Nat → Prop) (N : Nat) (sg : Nat → Int)
/-- how many vars there are -/
def vcn : List nm9 → Nat
  | [] => 0
  | e :: r => vcn r + (if e.2.1 = 3 then 1 else 0)
/-- how many consts and formulas -/
def rcn : List nm9 → Nat
  | [] => 0
  | e :: r => rcn r + (if e.2.1 = 3 then 0 else 1)
end EXQ
section EXR
variable {w pl nq : Nat → Int} {sm : Nat → Nat → Prop} {N : Nat} {sg : Nat → Int}
theorem vcn_app (l r : List nm9) : vcn (l ++ r) = vcn l + vcn r := by
  induction l with
  | nil => show vcn r = 0 + vcn r; omega
  | cons e l ih =>
    show vcn (l ++ r) + _ = vcn l + _ + vcn r
    rw [ih]
    omega
theorem rcn_app (l r : List nm9) : rcn (l ++ r) = rcn l + rcn r := by
  induction l with
  | nil => show rcn r = 0 + rcn r; omega
  | cons e l ih =>
    show rcn (l ++ r) + _ = rcn l + _ + rcn r
    rw [ih]
    omega
end EXR
end
section
/-! The exploration: pure. ev tells what a rule is worth in a state, stp what sets make of a state. -/
/-- a branch: its place, its chance's words, its sets -/
abbrev br9 : Type := Int × (Nat × Nat) × List (Nat × Nat × Nat × Nat)
/-- a command: its player (1 max, 2 min), its place, its guard's words, its branches -/
abbrev cm9 : Type := Int × Int × (Nat × Nat) × List br9
/-- a command of a state: which one of the text, the multiple, goals and shares -/
abbrev sc9 : Type := Nat × Int × List (Nat × Int)
section EXS
variable (ev : List Int → Nat → Nat → vrs) (stp : List Int → List (Nat × Nat × Nat × Nat) → (Int × Int) × List Int)
/-- the chances of a command: the first fault, or their values -/
def chq9 (sg : List Int) : List br9 → (Int × Int) × List (Int × Int)
  | [] => ((0, 0), [])
  | b :: r => if (ev sg b.2.1.1 b.2.1.2).1 ≠ 0 then (((ev sg b.2.1.1 b.2.1.2).1, (ev sg b.2.1.1 b.2.1.2).2.1), []) else if (ev sg b.2.1.1 b.2.1.2).2.1 < 0 ∨ (ev sg b.2.1.1 b.2.1.2).2.2 < (ev sg b.2.1.1 b.2.1.2).2.1 then ((11, b.1), []) else ((chq9 sg r).1, (ev sg b.2.1.1 b.2.1.2).2 :: (chq9 sg r).2)
/-- the multiple of all that stands below; 0 if it is too large -/
def muq9 : List (Int × Int) → Int → Int
  | [], m => m
  | c :: r, m => if 1000000000 ≤ m / (Int.gcd m c.2 : Int) * c.2 then 0 else muq9 r (m / (Int.gcd m c.2 : Int) * c.2)
/-- all shares together -/
def smq9 (m : Int) : List (Int × Int) → Int
  | [] => 0
  | c :: r => m / c.2 * c.1 + smq9 m r
/-- a state, known or new; none: there is no room -/
def enq9 (S : List (List Int)) (x : List Int) : Option (Nat × List (List Int)) := match S.findIdx? (fun y => y == x) with
  | some k => some (k, S)
  | none => if S.length = 512 then none else some (S.length, S ++ [x])
/-- a branch joins one with the same goal; none: there is none -/
def jnq9 (to : Nat) (wt : Int) : List (Nat × Int) → Option (List (Nat × Int))
  | [] => none
  | g :: r => if g.1 = to then some ((g.1, g.2 + wt) :: r) else (jnq9 to wt r).map (fun l => g :: l)
/-- the branches of a command are followed: the first fault, the states, goals and shares; pc its place, nb the branches before it -/
def flq9 (sg : List Int) (pc m : Int) (nb : Nat) : List (br9 × (Int × Int)) → List (List Int) → List (Nat × Int) → (Int × Int) × List (List Int) × List (Nat × Int)
  | [], S, B => ((0, 0), S, B)
  | x :: r, S, B => if x.2.1 = 0 then flq9 sg pc m nb r S B else if (stp sg x.1.2.2).1.1 ≠ 0 then ((stp sg x.1.2.2).1, S, B) else match enq9 S (stp sg x.1.2.2).2 with
    | none => ((5, x.1.1), S, B)
    | some q => match jnq9 q.1 (m / x.2.2 * x.2.1) B with
      | some B' => flq9 sg pc m nb r q.2 B'
      | none => if nb + B.length = 4096 then ((5, pc), q.2, B) else flq9 sg pc m nb r q.2 (B ++ [(q.1, m / x.2.2 * x.2.1)])
/-- while a state is looked at: the first fault, the states, its kind, its commands -/
abbrev sl9 : Type := (Int × Int) × List (List Int) × Int × List sc9
/-- how many branches -/
def nbq9 : List sc9 → Nat
  | [] => 0
  | c :: r => c.2.2.length + nbq9 r
/-- command c of the text; nb branches of the states before -/
def tcq9 (sg : List Int) (nb c : Nat) (cm : cm9) (s : sl9) : sl9 :=
  if (ev sg cm.2.2.1.1 cm.2.2.1.2).1 ≠ 0 then (((ev sg cm.2.2.1.1 cm.2.2.1.2).1, (ev sg cm.2.2.1.1 cm.2.2.1.2).2.1), s.2)
  else if (ev sg cm.2.2.1.1 cm.2.2.1.2).2.1 = 0 then s
  else if s.2.2.1 ≠ 0 ∧ s.2.2.1 ≠ cm.1 then ((13, cm.2.1), s.2)
  else if (chq9 ev sg cm.2.2.2).1.1 ≠ 0 then ((chq9 ev sg cm.2.2.2).1, s.2)
  else if muq9 (chq9 ev sg cm.2.2.2).2 1 = 0 then ((6, cm.2.1), s.2)
  else if smq9 (muq9 (chq9 ev sg cm.2.2.2).2 1) (chq9 ev sg cm.2.2.2).2 ≠ muq9 (chq9 ev sg cm.2.2.2).2 1 then ((11, cm.2.1), s.2)
  else ((flq9 stp sg cm.2.1 (muq9 (chq9 ev sg cm.2.2.2).2 1) (nb + nbq9 s.2.2.2) (cm.2.2.2.zip (chq9 ev sg cm.2.2.2).2) s.2.1 []).1, (flq9 stp sg cm.2.1 (muq9 (chq9 ev sg cm.2.2.2).2 1) (nb + nbq9 s.2.2.2) (cm.2.2.2.zip (chq9 ev sg cm.2.2.2).2) s.2.1 []).2.1, cm.1, s.2.2.2 ++ [(c, muq9 (chq9 ev sg cm.2.2.2).2 1, (flq9 stp sg cm.2.1 (muq9 (chq9 ev sg cm.2.2.2).2 1) (nb + nbq9 s.2.2.2) (cm.2.2.2.zip (chq9 ev sg cm.2.2.2).2) s.2.1 []).2.2)])
/-- all commands from the c-th on, up to a fault -/
def tsq9 (sg : List Int) (nb : Nat) : List cm9 → Nat → sl9 → sl9
  | [], _, s => s
  | cm :: r, c, s => if s.1.1 ≠ 0 then s else tsq9 sg nb r (c + 1) (tcq9 ev stp sg nb c cm s)
/-- a state -/
def ssq9 (tg : Nat × Nat) (cms : List cm9) (sg : List Int) (nb : Nat) (S : List (List Int)) : sl9 :=
  if (ev sg tg.1 tg.2).1 ≠ 0 then (((ev sg tg.1 tg.2).1, (ev sg tg.1 tg.2).2.1), S, 0, []) else if (ev sg tg.1 tg.2).2.1 ≠ 0 then ((0, 0), S, 3, []) else tsq9 ev stp sg nb cms 0 ((0, 0), S, 0, [])
/-- what has been explored: kinds and commands, state by state -/
abbrev xt9 : Type := List (Int × List sc9)
def nbx9 : xt9 → Nat
  | [] => 0
  | x :: r => nbq9 x.2 + nbx9 r
/-- from state k on: the fault and its state, the states, kinds and commands -/
def exq9 (tg : Nat × Nat) (cms : List cm9) : Nat → Nat → List (List Int) → xt9 → (Int × Int) × Nat × List (List Int) × xt9
  | 0, k, S, T => ((0, 0), k, S, T)
  | f + 1, k, S, T => match S[k]? with
    | none => ((0, 0), k, S, T)
    | some sg => if (ssq9 ev stp tg cms sg (nbx9 T) S).1.1 ≠ 0 then ((ssq9 ev stp tg cms sg (nbx9 T) S).1, k, [], []) else exq9 tg cms f (k + 1) (ssq9 ev stp tg cms sg (nbx9 T) S).2.1 (T ++ [((ssq9 ev stp tg cms sg (nbx9 T) S).2.2.1, (ssq9 ev stp tg cms sg (nbx9 T) S).2.2.2)])
/-- the whole exploration from the first state on -/
def xpl9 (tg : Nat × Nat) (cms : List cm9) (s0 : List Int) : (Int × Int) × Nat × List (List Int) × xt9 := exq9 ev stp tg cms 513 0 [s0] []
end EXS
end
end
section
section
/-! What a text's items make of the game: pure. -/
/-- the vars' ranges and inits; the target's rule; the commands -/
abbrev gm9 : Type := List (Int × Int × Int) × Option (Nat × Nat) × List cm9
/-- the words of a text, how many, its names, its game -/
abbrev gW9 : Type := (Nat → Int) × (Nat → Int) × (Nat → Int) × (Nat → Nat → Prop) × Nat × List nm9 × gm9
section GMP
variable (w pl nq : Nat → Int) (sm : Nat → Nat → Prop) (N : Nat)
/-- which var the word k names -/
noncomputable def vix9 (nms : List nm9) (k : Nat) : Nat := vcn (nms.takeWhile (fun e => !@decide (sm e.1 k) (Classical.propDecidable _)))
/-- the sets of a branch, from k on -/
noncomputable def sel9 (nms : List nm9) : Nat → Nat → List (Nat × Nat × Nat × Nat)
  | 0, _ => []
  | f + 1, k => (vix9 sm nms (k + 1), k + 4, cpq w (k + 4) N, k) :: (if w (cpq w (k + 4) N + 1) = 29 then sel9 nms f (cpq w (k + 4) N + 2) else [])
/-- the branches of a command, from the word i on; the item ends at e -/
noncomputable def brs9 (nms : List nm9) (e : Nat) : Nat → Nat → List br9
  | 0, _ => []
  | f + 1, i => if e ≤ i then [] else if w (clq w (i - 1) N + 1) = 10 then (pl i, (i, clq w (i - 1) N), []) :: brs9 nms e f (clq w (i - 1) N + 3)
    else (pl i, (i, clq w (i - 1) N), sel9 w sm N nms N (clq w (i - 1) N + 1)) :: brs9 nms e f ((sef w pl sm N nms N (clq w (i - 1) N + 1) []).2 + 1)
/-- a command -/
noncomputable def cmd9 (nms : List nm9) (k e : Nat) : cm9 := ((if w k = 7 then 1 else 2), pl k, (k + 1, nxq w 17 N (k + 1)), brs9 w pl sm N nms e N (nxq w 17 N (k + 1) + 1))
/-- a var's range and init -/
noncomputable def var9 (nms : List nm9) (k e : Nat) : Int × Int × Int :=
  let rg := nxq w 16 N (k + 3)
  let ini := if w (k + 3) = 5 then k + 4 else nxq w 9 (e - (k + 3)) (k + 3)
  let lo : Int := if w (k + 3) = 5 then 0 else (vlq w (cv9 w nq sm nms) pl 0 0 (k + 3) rg).2.1
  let hi : Int := if w (k + 3) = 5 then 1 else (vlq w (cv9 w nq sm nms) pl 0 0 (rg + 1) ini).2.1
  (lo, hi, if w ini = 9 then (vlq w (cv9 w nq sm nms) pl 0 0 (ini + 1) e).2.1 else lo)
/-- the item at k; nms the names before it -/
noncomputable def igm9 (nms : List nm9) (k : Nat) (g : gm9) : gm9 :=
  if w k = 3 ∨ w k = 6 then g else if w k = 4 then (g.1 ++ [var9 w pl nq sm N nms k (nxq w 34 N k)], g.2) else if w k = 11 then (g.1, some (k + 1, nxq w 34 N k), g.2.2) else (g.1, g.2.1, g.2.2 ++ [cmd9 w pl sm N nms k (nxq w 34 N k)])
/-- all items from k on -/
noncomputable def igs9 (mc : Nat) : Nat → Nat → st9 → gm9 → gm9
  | 0, _, _, g => g
  | f + 1, k, s, g => if s.2.2.1 ≠ 0 then g else if w k = 0 then g else igs9 mc f (nxq w 34 N k + 1) (ite9 w pl nq sm N mc k s) (if (ite9 w pl nq sm N mc k s).2.2.1 ≠ 0 then g else igm9 w pl nq sm N s.1 k g)
end GMP
end
section
/-! What the words of a text are worth in a state, by the first name that is spelt so: pure. -/
section NMA
variable (w pl nq : Nat → Int) (sm : Nat → Nat → Prop) (N : Nat) (sg : Nat → Int)
/-- what a word is worth in the state sg; the names, latest first -/
noncomputable def cvs : List nm9 → Nat → vrs
  | [], k => if w k = 2 then (0, nq k, 1) else if w k = 12 then (0, 1, 1) else (0, 0, 1)
  | e :: r, k => haveI := Classical.propDecidable (w k = 1 ∧ sm e.1 k ∧ ∀ e', e' ∈ r → ¬ sm e'.1 k)
    if w k = 1 ∧ sm e.1 k ∧ ∀ e', e' ∈ r → ¬ sm e'.1 k then (if e.2.1 = 1 then e.2.2.2 else if e.2.1 = 3 then (0, sg (vcn r), 1) else vlq w (cvs r) pl 0 0 (e.1 + 2) (nxq w 34 N e.1)) else cvs r k
/-- what a name is worth; r the names before it, latest first -/
noncomputable def nvs (e : nm9) (r : List nm9) : vrs := if e.2.1 = 1 then e.2.2.2 else if e.2.1 = 3 then (0, sg (vcn r), 1) else vlq w (cvs w pl nq sm N sg r) pl 0 0 (e.1 + 2) (nxq w 34 N e.1)
/-- what const or formula number x is worth -/
noncomputable def fvs : List nm9 → Nat → vrs
  | [], _ => (0, 0, 1)
  | e :: r, x => if e.2.1 ≠ 3 ∧ rcn r = x then nvs w pl nq sm N sg e r else fvs r x
/-- the words of the text alone -/
noncomputable def cvb (n : Nat) (r : List nm9) (k : Nat) : vrs := if k < n then cvs w pl nq sm N sg r k else (0, 0, 1)
/-- the names of a text, oldest first -/
def NmO (n : Nat) (nms : List nm9) : Prop := ∀ l1 e l2, nms = l1 ++ e :: l2 → (1 ≤ e.2.1 ∧ e.2.1 ≤ 3) ∧ (e.2.2.1 = 0 ∨ e.2.2.1 = 1) ∧ (e.2.1 = 1 → vgd e.2.2.1 e.2.2.2) ∧ (e.2.1 = 2 → Eo w 6 (e.1 + 2) (nxq w 34 N e.1) ∧ nxq w 34 N e.1 ≤ n ∧ (fl w (E9 sm l1 0) pl 0 (e.1 + 2) (nxq w 34 N e.1)).1 = 0 ∧ e.2.2.1 = kdq w (E9 sm l1 0) 0 (e.1 + 2) (nxq w 34 N e.1))
/-- a state has sound values -/
def SgO (nms : List nm9) : Prop := ∀ l1 e l2, nms = l1 ++ e :: l2 → e.2.1 = 3 → (sg (vcn l1)).natAbs ≤ 999999999 ∧ (e.2.2.1 = 1 → sg (vcn l1) = 0 ∨ sg (vcn l1) = 1)
end NMA
section NMB
variable {w pl nq : Nat → Int} {sm : Nat → Nat → Prop} {N n : Nat} {sg : Nat → Int} {nms : List nm9}
theorem cvs_at {e : nm9} {r : List nm9} {k : Nat} (h1 : w k = 1) (h2 : sm e.1 k) (h3 : ∀ e', e' ∈ r → ¬ sm e'.1 k) : ∀ l : List nm9, cvs w pl nq sm N sg (l ++ e :: r) k = nvs w pl nq sm N sg e r
  | [] => by
    show cvs w pl nq sm N sg (e :: r) k = _
    rw [cvs, if_pos ⟨h1, h2, h3⟩]
    rfl
  | e' :: l => by
    show cvs w pl nq sm N sg (e' :: (l ++ e :: r)) k = _
    rw [cvs, if_neg (fun u => u.2.2 e (List.mem_append_right _ List.mem_cons_self) h2)]
    exact cvs_at h1 h2 h3 l
theorem cvs_no {k : Nat} (h : w k ≠ 1) : ∀ l : List nm9, cvs w pl nq sm N sg l k = if w k = 2 then (0, nq k, 1) else if w k = 12 then (0, 1, 1) else (0, 0, 1)
  | [] => rfl
  | e :: r => by rw [cvs, if_neg (fun u => h u.1), cvs_no h r]
theorem vcn_rev (l : List nm9) : vcn l.reverse = vcn l := by
  induction l with
  | nil => rfl
  | cons e l ih =>
    rw [List.reverse_cons, vcn_app, ih]
    show vcn l + (0 + _) = vcn l + _
    omega
theorem rcn_rev (l : List nm9) : rcn l.reverse = rcn l := by
  induction l with
  | nil => rfl
  | cons e l ih =>
    rw [List.reverse_cons, rcn_app, ih]
    show rcn l + (0 + _) = rcn l + _
    omega
theorem fvs_at {e : nm9} {r : List nm9} (h3 : e.2.1 ≠ 3) : ∀ l : List nm9, fvs w pl nq sm N sg (l ++ e :: r) (rcn r) = nvs w pl nq sm N sg e r
  | [] => by
    show fvs w pl nq sm N sg (e :: r) (rcn r) = _
    rw [fvs, if_pos ⟨h3, rfl⟩]
  | e' :: l => by
    show fvs w pl nq sm N sg (e' :: (l ++ e :: r)) (rcn r) = _
    rw [fvs, if_neg (fun u => ?_)]
    · exact fvs_at h3 l
    · have u := u.2
      rw [rcn_app] at u
      have e9 : rcn (e :: r) = rcn r + 1 := by
        show rcn r + (if e.2.1 = 3 then 0 else 1) = _
        rw [if_neg h3]
      omega
theorem fnd_sp {l : List nm9} {k : Nat} {e : nm9} (h : fnd9 sm l k = some e) : ∃ l1 l2, l = l1 ++ e :: l2 ∧ sm e.1 k ∧ ∀ e', e' ∈ l1 → ¬ sm e'.1 k := by
  unfold fnd9 at h
  rw [List.find?_eq_some_iff_append] at h
  obtain ⟨h1, l1, l2, h2, h3⟩ := h
  refine ⟨l1, l2, h2, by simpa using h1, fun e' he => ?_⟩
  have := h3 e' he
  simpa using this
theorem E9_sp {l : List nm9} {k : Nat} (h : E9 sm l 0 k ≠ -1) : ∃ l1 e l2, l = l1 ++ e :: l2 ∧ sm e.1 k ∧ (∀ e', e' ∈ l1 → ¬ sm e'.1 k) ∧ E9 sm l 0 k = e.2.2.1 := by
  unfold E9 at h ⊢
  generalize hf : fnd9 sm l k = o at h ⊢
  cases o with
  | none => exact absurd rfl h
  | some e =>
    obtain ⟨l1, l2, q1, q2, q3⟩ := fnd_sp hf
    refine ⟨l1, e, l2, q1, q2, q3, ?_⟩
    show (if (0 : Int) = 1 ∧ e.2.1 ≠ 1 then (-1 : Int) else e.2.2.1) = e.2.2.1
    rw [if_neg (fun u => absurd u.1 (by decide))]
/-- a name among the older ones -/
theorem cvs_old {r l : List nm9} {k : Nat} (h1 : w k = 1) {l1 l2 : List nm9} {e : nm9} (hr : r = l1 ++ e :: l2) (h2 : sm e.1 k) (h3 : ∀ e', e' ∈ l1 → ¬ sm e'.1 k) : cvs w pl nq sm N sg (r ++ l).reverse k = nvs w pl nq sm N sg e l1.reverse := by
  have e9 : (r ++ l).reverse = (l2 ++ l).reverse ++ e :: l1.reverse := by
    rw [hr]
    simp
  rw [e9]
  exact cvs_at h1 h2 (fun e' he => h3 e' (List.mem_reverse.mp he)) _
theorem cvs_pre {r l : List nm9} {k : Nat} (h : w k = 1 → E9 sm r 0 k ≠ -1) : cvs w pl nq sm N sg (r ++ l).reverse k = cvs w pl nq sm N sg r.reverse k := by
  by_cases y : w k = 1
  · obtain ⟨l1, e, l2, q1, q2, q3, -⟩ := E9_sp (h y)
    have a := cvs_old (pl := pl) (nq := nq) (N := N) (sg := sg) (l := l) y q1 q2 q3
    have b := cvs_old (pl := pl) (nq := nq) (N := N) (sg := sg) (l := []) y q1 q2 q3
    rw [List.append_nil] at b
    rw [a, b]
  · rw [cvs_no y, cvs_no y]
theorem rcn_sp : ∀ (l : List nm9) (x : Nat), x < rcn l → ∃ l1 e l2, l = l1 ++ e :: l2 ∧ e.2.1 ≠ 3 ∧ rcn l1 = x
  | [], x, h => absurd h (Nat.not_lt_zero _)
  | e :: l, x, h => by
    have e9 : rcn (e :: l) = rcn l + (if e.2.1 = 3 then 0 else 1) := rfl
    by_cases u : e.2.1 = 3
    · rw [e9, if_pos u] at h
      obtain ⟨l1, e', l2, q1, q2, q3⟩ := rcn_sp l x h
      refine ⟨e :: l1, e', l2, by rw [q1]; rfl, q2, ?_⟩
      show rcn l1 + (if e.2.1 = 3 then 0 else 1) = x
      rw [if_pos u]
      exact q3
    · rw [e9, if_neg u] at h
      by_cases y : x = 0
      · exact ⟨[], e, l, rfl, u, y.symm⟩
      · obtain ⟨l1, e', l2, q1, q2, q3⟩ := rcn_sp l (x - 1) (by omega)
        refine ⟨e :: l1, e', l2, by rw [q1]; rfl, q2, ?_⟩
        show rcn l1 + (if e.2.1 = 3 then 0 else 1) = x
        rw [if_neg u]
        omega
/-- numbers are small -/
def NqO (w nq : Nat → Int) (n : Nat) : Prop := ∀ k, k < n → w k = 2 → (nq k).natAbs ≤ 999999999
theorem vgd_w {x : Int} (h : x.natAbs ≤ 999999999) : vgd 0 (0, x, 1) := Or.inl ⟨rfl, h, ⟨Int.le_refl 1, show (1 : Int) ≤ 999999999 by decide⟩, Int.gcd_one, fun u => absurd u (by decide)⟩
/-- the words' values are sound, if the names' are -/
theorem cvb_ok {r : List nm9} (hq : NqO w nq n) (hv : ∀ l1 e l2, r = l1 ++ e :: l2 → (e.2.2.1 = 0 ∨ e.2.2.1 = 1) ∧ vgd e.2.2.1 (nvs w pl nq sm N sg e l1.reverse)) : ∀ k, (w k = 1 ∨ w k = 2 ∨ w k = 12 ∨ w k = 13) → (w k = 1 → E9 sm r 0 k ≠ -1) → vgd (if w k = 12 ∨ w k = 13 ∨ (w k = 1 ∧ E9 sm r 0 k = 1) then 1 else 0) (cvb w pl nq sm N sg n r.reverse k) := by
  intro k hk hne
  unfold cvb
  by_cases kn : k < n
  · rw [if_pos kn]
    by_cases h1 : w k = 1
    · obtain ⟨l1, e, l2, q1, q2, q3, q4⟩ := E9_sp (hne h1)
      have b := cvs_old (pl := pl) (nq := nq) (N := N) (sg := sg) (l := []) h1 q1 q2 q3
      rw [List.append_nil] at b
      obtain ⟨g1, g2⟩ := hv l1 e l2 q1
      rw [b, q4]
      by_cases y : e.2.2.1 = 1
      · rw [if_pos (Or.inr (Or.inr ⟨h1, y⟩))]
        rw [y] at g2
        exact g2
      · rw [if_neg (by omega)]
        have : e.2.2.1 = 0 := by omega
        rw [this] at g2
        exact g2
    · rw [cvs_no h1]
      by_cases h2 : w k = 2
      · rw [if_pos h2, if_neg (by omega)]
        exact vgd_w (hq k kn h2)
      · rw [if_neg h2]
        by_cases h3 : w k = 12
        · rw [if_pos h3, if_pos (Or.inl h3)]
          exact vgd_01.1
        · rw [if_neg h3, if_pos (Or.inr (Or.inl (by omega)))]
          exact vgd_01.2
  · rw [if_neg kn]
    exact vgd_01.2
theorem cvb_vl {r : List nm9} {i j : Nat} (he : Eo w 6 i j) (hj : j ≤ n) : vlq w (cvb w pl nq sm N sg n r) pl 0 0 i j = vlq w (cvs w pl nq sm N sg r) pl 0 0 i j := vl_ci0 (fun k _ h => if_pos (by omega)) he
theorem nvs_ok (hq : NqO w nq n) (hn : NmO w pl sm N n nms) (hs : SgO sg nms) : ∀ (f : Nat) (l1 : List nm9) (e : nm9) (l2 : List nm9), l1.length ≤ f → nms = l1 ++ e :: l2 → (e.2.2.1 = 0 ∨ e.2.2.1 = 1) ∧ vgd e.2.2.1 (nvs w pl nq sm N sg e l1.reverse) := by
  intro f
  induction f with
  | zero =>
    intro l1 e l2 hl he
    have l0 : l1 = [] := List.length_eq_zero_iff.mp (by omega)
    subst l0
    obtain ⟨h0, h1, h2, h3⟩ := hn [] e l2 he
    refine ⟨h1, ?_⟩
    unfold nvs
    by_cases y1 : e.2.1 = 1
    · rw [if_pos y1]; exact h2 y1
    rw [if_neg y1]
    by_cases y3 : e.2.1 = 3
    · rw [if_pos y3]
      obtain ⟨s1, s2⟩ := hs [] e l2 he y3
      rw [vcn_rev]
      exact Or.inl ⟨rfl, s1, ⟨Int.le_refl 1, show (1 : Int) ≤ 999999999 by decide⟩, Int.gcd_one, fun u => ⟨s2 u, rfl⟩⟩
    rw [if_neg y3]
    obtain ⟨t1, t2, t3, t4⟩ := h3 (by omega)
    rw [← cvb_vl t1 t2, t4]
    exact vl_ok (cvb_ok (r := []) hq (fun a e' b u => absurd u (by simp))) _ 0 _ _ (Nat.le_refl _) (Or.inl ⟨rfl, t1⟩) t3 (fun u => absurd u (by decide)) 0
  | succ f ih =>
    intro l1 e l2 hl he
    obtain ⟨h0, h1, h2, h3⟩ := hn l1 e l2 he
    refine ⟨h1, ?_⟩
    unfold nvs
    by_cases y1 : e.2.1 = 1
    · rw [if_pos y1]; exact h2 y1
    rw [if_neg y1]
    by_cases y3 : e.2.1 = 3
    · rw [if_pos y3]
      obtain ⟨s1, s2⟩ := hs l1 e l2 he y3
      rw [vcn_rev]
      exact Or.inl ⟨rfl, s1, ⟨Int.le_refl 1, show (1 : Int) ≤ 999999999 by decide⟩, Int.gcd_one, fun u => ⟨s2 u, rfl⟩⟩
    rw [if_neg y3]
    obtain ⟨t1, t2, t3, t4⟩ := h3 (by omega)
    rw [← cvb_vl t1 t2, t4]
    exact vl_ok (cvb_ok (r := l1) hq (fun a e' b u => ih a e' (b ++ e :: l2) (by rw [u, List.length_append, List.length_cons] at hl; omega) (by rw [he, u]; simp))) _ 0 _ _ (Nat.le_refl _) (Or.inl ⟨rfl, t1⟩) t3 (fun u => absurd u (by decide)) 0
/-- the value of a rule of the text is sound -/
theorem vls_ok {r l : List nm9} {i j : Nat} (hq : NqO w nq n) (hn : NmO w pl sm N n nms) (hs : SgO sg nms) (hr : nms = r ++ l) (he : Eo w 6 i j) (hj : j ≤ n) (hf : (fl w (E9 sm r 0) pl 0 i j).1 = 0) : vgd (kdq w (E9 sm r 0) 0 i j) (vlq w (cvs w pl nq sm N sg nms.reverse) pl 0 0 i j) := by
  have e9 : vlq w (cvs w pl nq sm N sg nms.reverse) pl 0 0 i j = vlq w (cvb w pl nq sm N sg n r.reverse) pl 0 0 i j := by
    rw [cvb_vl he hj, hr]
    exact vl_cg0 (E := E9 sm r 0) (fun k _ h => cvs_pre h) he hf
  rw [e9]
  exact vl_ok (cvb_ok (r := r) hq (fun a e' b u => nvs_ok hq hn hs _ a e' (b ++ l) (Nat.le_refl _) (by rw [hr, u]; simp))) _ 0 _ _ (Nat.le_refl _) (Or.inl ⟨rfl, he⟩) hf (fun u => absurd u (by decide)) 0
theorem vls_r {r l : List nm9} {i j : Nat} (hr : nms = r ++ l) (he : Eo w 6 i j) (hj : j ≤ n) (hf : (fl w (E9 sm r 0) pl 0 i j).1 = 0) : vlq w (cvb w pl nq sm N sg n r.reverse) pl 0 0 i j = vlq w (cvs w pl nq sm N sg nms.reverse) pl 0 0 i j := by
  rw [cvb_vl he hj, hr]
  exact (vl_cg0 (E := E9 sm r 0) (fun k _ h => cvs_pre h) he hf).symm
end NMB
end
end
section
section
/-! The class's reader of texts, exactly: words and names. -/
section TXA
variable {W pl nq : Nat → Int} {sm : Nat → Nat → Prop} {M M' : mM} {r T A B D n c p : Nat} {nms : List nm9}
/-- the class's words are W at pl, numbers nq, spelt alike sm -/
def WTq (M : mM) (T A B D n : Nat) (W pl nq : Nat → Int) (sm : Nat → Nat → Prop) : Prop := (∀ j, j ≤ n → (0 ≤ W j ∧ W j ≤ 39) ∧ mI M A j = csq (W j) ∧ mI M B j = pl j) ∧ (∀ v, v < n → W v = 2 → mI M D v = nq v ∧ 0 ≤ nq v ∧ nq v ≤ 999999999) ∧ ∀ v x, v < n → x < n → W v = 1 → W x = 1 → (sm x v ↔ swq M T B D v x)
theorem WTq.cg (h : WTq M T A B D n W pl nq sm) (hT : mI M' T = mI M T) (hA : mI M' A = mI M A) (hB : mI M' B = mI M B) (hD : mI M' D = mI M D) : WTq M' T A B D n W pl nq sm := by
  unfold WTq swq at h ⊢
  rw [hT, hA, hB, hD]
  exact h
/-- a name in the class's numbers -/
def srt9 (s : Nat) : Int := if s = 1 then 4 else if s = 2 then 7 else 5
/-- the class's tables are the names nms -/
def CT (M : mM) (r p : Nat) (nms : List nm9) : Prop := mI M r 19 = nms.length ∧ ∀ (i : Nat) (e : nm9), nms[i]? = some e → mI M (r + 6) i = e.1 ∧ mI M (r + 7) i = srt9 e.2.1 ∧ (1 ≤ e.2.1 ∧ e.2.1 ≤ 3) ∧ mI M (r + 9) i = e.2.2.1 ∧ (e.2.1 = 1 → vgd e.2.2.1 e.2.2.2 ∧ ∃ x : Nat, mI M (r + 8) i = x ∧ x < 60 ∧ (1 ≤ mI M (p + 7) x ∧ mI M (p + 7) x < 1000000000) ∧ e.2.2.2 = (0, mI M (p + 6) x, mI M (p + 7) x)) ∧ (e.2.1 = 3 → ∀ (j : Nat) (e' : nm9), nms[j]? = some e' → e'.2.1 = 3 → mI M (r + 8) j = mI M (r + 8) i → j = i) ∧ mI M (r + 8) i = (if e.2.1 = 3 then ((vcn (nms.take i) : Nat) : Int) else ((rcn (nms.take i) : Nat) : Int))
theorem csq_w {x : Int} (h : 0 ≤ x ∧ x ≤ 39) : (csq x = 2 ↔ x = 1) ∧ (csq x = 0 ↔ x = 0) ∧ (∀ y : Int, 1 ≤ y → y ≤ 38 → (csq x = y + 1 ↔ x = y)) := by
  unfold csq
  refine ⟨?_, ?_, fun y y1 y2 => ?_⟩
  · split <;> (try split) <;> omega
  · split <;> (try split) <;> omega
  · split <;> (try split) <;> omega
/-- the first name that is spelt so -/
theorem CT.fnd (ct : CT M r p nms) (wt : WTq M T A B D n W pl nq sm) (hw : ∀ i, i < nms.length → ∃ v : Nat, mI M (r + 6) i = v ∧ v < n ∧ mI M A v = 2) {v : Nat} (hv : v < n) (h1 : W v = 1) : (nmn M r T B D nms.length v ∧ fnd9 sm nms v = none) ∨ ∃ (i : Nat) (e : nm9), fm M r T B D nms.length v i ∧ nms[i]? = some e ∧ fnd9 sm nms v = some e ∧ ∀ (j : Nat) (e' : nm9), j < i → nms[j]? = some e' → ¬ sm e'.1 v := by
  have at9 : ∀ {q : Nat} {e : nm9}, nms[q]? = some e → q < nms.length := fun {q e} z => (List.getElem?_eq_some_iff.mp z).1
  have same : ∀ {q : Nat} {e : nm9}, nms[q]? = some e → ((mI M (r + 6) q).toNat = e.1 ∧ (sm e.1 v ↔ swq M T B D v (mI M (r + 6) q).toNat)) := fun {q e} z => by
    obtain ⟨z1, -⟩ := ct.2 q e z
    obtain ⟨x, x1, x2, x3⟩ := hw q (at9 z)
    have ex : e.1 = x := by omega
    have wx : W e.1 = 1 := by
      rw [ex]
      obtain ⟨y1, y2, -⟩ := wt.1 x (by omega)
      exact (csq_w y1).1.mp (by rw [← y2]; exact x3)
    refine ⟨by rw [z1, Int.toNat_natCast], ?_⟩
    rw [z1, Int.toNat_natCast]
    exact wt.2.2 v e.1 hv (by omega) h1 wx
  by_cases c : ∃ i, i < nms.length ∧ swq M T B D v (mI M (r + 6) i).toNat
  · have fs : ∃ i, fm M r T B D nms.length v i := by
      obtain ⟨i, i1, i2⟩ := c
      have : ∀ (f k : Nat), k + f = i → (∀ j, j < k → ¬ swq M T B D v (mI M (r + 6) j).toNat) → ∃ i, fm M r T B D nms.length v i := by
        intro f
        induction f with
        | zero =>
          intro k hk hj
          have : k = i := by omega
          subst this
          exact ⟨k, i1, i2, hj⟩
        | succ f ih =>
          intro k hk hj
          by_cases c : swq M T B D v (mI M (r + 6) k).toNat
          · exact ⟨k, by omega, c, hj⟩
          · refine ih (k + 1) (by omega) (fun j hj2 => ?_)
            by_cases e : j = k
            · rw [e]; exact c
            · exact hj j (by omega)
      exact this i 0 (by omega) (fun j hj => by omega)
    obtain ⟨i, f1, f2, f3⟩ := fs
    obtain ⟨e, z⟩ : ∃ e, nms[i]? = some e := ⟨nms[i], List.getElem?_eq_getElem f1⟩
    refine Or.inr ⟨i, e, ⟨f1, f2, f3⟩, z, ?_, fun j e' hj zj y => f3 j hj ((same zj).2.mp y)⟩
    unfold fnd9
    rw [List.find?_eq_some_iff_getElem]
    refine ⟨by simp only [decide_eq_true_eq]; exact (same z).2.mpr f2, i, f1, by rw [List.getElem?_eq_getElem f1] at z; exact Option.some.inj z, fun j hj => ?_⟩
    have zj : nms[j]? = some nms[j] := List.getElem?_eq_getElem (by omega)
    have := f3 j hj
    simp only [Bool.not_eq_true', decide_eq_false_iff_not]
    exact fun y => this ((same zj).2.mp y)
  · have no : nmn M r T B D nms.length v := fun j hj y => c ⟨j, hj, y⟩
    refine Or.inl ⟨no, ?_⟩
    unfold fnd9
    rw [List.find?_eq_none]
    intro e he
    obtain ⟨i, z⟩ := List.mem_iff_getElem?.mp he
    simp only [decide_eq_true_eq]
    exact fun y => no i (at9 z) ((same z).2.mp y)
theorem fm_un {i j : Nat} (h : fm M r T B D c p i) (k : fm M r T B D c p j) : i = j := by
  obtain ⟨h1, h2, h3⟩ := h
  obtain ⟨k1, k2, k3⟩ := k
  rcases Nat.lt_trichotomy i j with d | d | d
  · exact absurd h2 (k3 i d)
  · exact d
  · exact absurd k2 (h3 j d)
/-- what reading a rule hangs on: kinds and orders of words -/
theorem uq_ex (wt : WTq M T A B D n W pl nq sm) (hw : ∀ i, i < c → ∃ v : Nat, mI M (r + 6) i = v ∧ v < n ∧ mI M A v = 2) {co : Int} (hco : mI M r 6 = co) : ∃ (E : Nat → Int) (Cf : Nat → Int × Int), (∀ rest, UQ (W, E, pl, Cf, rest) M r T A B D n c) ∧ (∀ v, n ≤ v → Cf v = (3, 0)) ∧ (CT M r p nms → nms.length = c → (E = E9 sm nms (if co = 0 then 0 else 1) ∧ ∀ v, v < n → (W v = 2 → Cf v = (3, nq v)) ∧ (W v = 12 → Cf v = (3, 1)) ∧ (W v = 13 → Cf v = (3, 0)) ∧ (W v = 1 → E v ≠ -1 → ∃ (i : Nat) (e : nm9), nms[i]? = some e ∧ fnd9 sm nms v = some e ∧ (co = 0 ∨ e.2.1 = 1) ∧ Cf v = (mI M (r + 7) i, mI M (r + 8) i) ∧ ∀ (j : Nat) (e' : nm9), j < i → nms[j]? = some e' → ¬ sm e'.1 v))) := by
  classical
  have wq : ∀ E Cf rest, WQ (W, E, pl, Cf, rest) M A B n := fun E Cf rest j hj => wt.1 j hj
  let fi : Nat → Option Nat := fun v => if h : ∃ i, fm M r T B D c v i then some (Classical.choose h) else none
  have fi_n : ∀ v, nmn M r T B D c v → fi v = none := fun v h => dif_neg (fun ⟨i, q⟩ => h i q.1 q.2.1)
  have fi_s : ∀ v i, fm M r T B D c v i → fi v = some i := fun v i h => by
    have h9 : ∃ i, fm M r T B D c v i := ⟨i, h⟩
    show (if h : ∃ i, fm M r T B D c v i then some (Classical.choose h) else none) = some i
    rw [dif_pos h9]
    exact congrArg some (fm_un (Classical.choose_spec h9) h)
  let Cf : Nat → Int × Int := fun v => if n ≤ v then (3, 0) else if W v = 2 then (3, nq v) else if W v = 12 then (3, 1) else if W v = 13 then (3, 0) else match fi v with
    | none => (3, 0)
    | some i => if mI M r 6 ≠ 0 ∧ mI M (r + 7) i ≠ 4 then (3, 0) else (mI M (r + 7) i, mI M (r + 8) i)
  let E0 : Nat → Int := fun v => match fi v with
    | none => -1
    | some i => if mI M r 6 ≠ 0 ∧ mI M (r + 7) i ≠ 4 then -1 else mI M (r + 9) i
  have cf1 : ∀ v, v < n → W v = 1 → Cf v = match fi v with
    | none => (3, 0)
    | some i => if mI M r 6 ≠ 0 ∧ mI M (r + 7) i ≠ 4 then (3, 0) else (mI M (r + 7) i, mI M (r + 8) i) := fun v hv h1 => by
    show (if n ≤ v then _ else _) = _
    rw [if_neg (by omega), if_neg (by omega), if_neg (by omega), if_neg (by omega)]
  have cf2 : ∀ v, v < n → (W v = 2 → Cf v = (3, nq v)) ∧ (W v = 12 → Cf v = (3, 1)) ∧ (W v = 13 → Cf v = (3, 0)) := fun v hv => by
    refine ⟨fun h => ?_, fun h => ?_, fun h => ?_⟩
    · show (if n ≤ v then _ else _) = _
      rw [if_neg (by omega), if_pos h]
    · show (if n ≤ v then _ else _) = _
      rw [if_neg (by omega), if_neg (by omega), if_pos h]
    · show (if n ≤ v then _ else _) = _
      rw [if_neg (by omega), if_neg (by omega), if_neg (by omega), if_pos h]
  have uqE : ∀ E : Nat → Int, (∀ v, v < n → W v = 1 → E v = E0 v) → ∀ rest, UQ (W, E, pl, Cf, rest) M r T A B D n c := fun E hE rest => by
    refine ⟨wq _ _ _, fun v hv => ⟨fun h => ?_, fun h => (cf2 v hv).2.1 h, fun h => (cf2 v hv).2.2 h, fun h => ⟨fun q => ⟨?_, ?_⟩, fun i q => ⟨fun y => ⟨?_, ?_⟩, fun y => ⟨?_, ?_⟩⟩⟩⟩⟩
    · show Cf v = (3, mI M D v)
      rw [(cf2 v hv).1 h, (wt.2.1 v hv h).1]
    · show E v = -1
      rw [hE v hv h]
      show (match fi v with | none => (-1 : Int) | some i => _) = -1
      rw [fi_n v q]
    · show Cf v = (3, 0)
      rw [cf1 v hv h, fi_n v q]
    · show E v = -1
      rw [hE v hv h]
      show (match fi v with | none => (-1 : Int) | some i => if mI M r 6 ≠ 0 ∧ mI M (r + 7) i ≠ 4 then -1 else mI M (r + 9) i) = -1
      rw [fi_s v i q]
      exact if_pos y
    · show Cf v = (3, 0)
      rw [cf1 v hv h, fi_s v i q]
      exact if_pos y
    · show E v = mI M (r + 9) i
      rw [hE v hv h]
      show (match fi v with | none => (-1 : Int) | some i => if mI M r 6 ≠ 0 ∧ mI M (r + 7) i ≠ 4 then -1 else mI M (r + 9) i) = _
      rw [fi_s v i q]
      exact if_neg y
    · show Cf v = (mI M (r + 7) i, mI M (r + 8) i)
      rw [cf1 v hv h, fi_s v i q]
      exact if_neg y
  have big : ∀ v, n ≤ v → Cf v = (3, 0) := fun v hv => if_pos hv
  by_cases hc : CT M r p nms ∧ nms.length = c
  · obtain ⟨ct, hl⟩ := hc
    have srt : ∀ {i : Nat} {e : nm9}, nms[i]? = some e → (mI M (r + 7) i ≠ 4 ↔ e.2.1 ≠ 1) := fun {i e} z => by
      obtain ⟨-, z2, z3, -⟩ := ct.2 i e z
      rw [z2]
      unfold srt9
      split
      · rename_i y; simp [y]
      · rename_i y
        split <;> simp [y]
    have eE : ∀ v, v < n → W v = 1 → E9 sm nms (if co = 0 then 0 else 1) v = E0 v := fun v hv h1 => by
      rcases ct.fnd wt (by rw [hl]; exact hw) hv h1 with ⟨q1, q2⟩ | ⟨i, e, q1, q2, q3, q4⟩
      · rw [hl] at q1
        unfold E9
        rw [q2]
        show (-1 : Int) = match fi v with | none => (-1 : Int) | some i => if mI M r 6 ≠ 0 ∧ mI M (r + 7) i ≠ 4 then -1 else mI M (r + 9) i
        rw [fi_n v q1]
      · rw [hl] at q1
        unfold E9
        rw [q3]
        show (if (if co = 0 then (0 : Int) else 1) = 1 ∧ e.2.1 ≠ 1 then (-1 : Int) else e.2.2.1) = match fi v with | none => (-1 : Int) | some i => if mI M r 6 ≠ 0 ∧ mI M (r + 7) i ≠ 4 then -1 else mI M (r + 9) i
        rw [fi_s v i q1]
        obtain ⟨-, -, -, z4, -⟩ := ct.2 i e q2
        have sr := srt q2
        show _ = if mI M r 6 ≠ 0 ∧ mI M (r + 7) i ≠ 4 then (-1 : Int) else mI M (r + 9) i
        rw [hco, z4]
        by_cases c0 : co = 0
        · rw [if_pos c0, if_neg (fun y => absurd y.1 (by decide)), if_neg (fun y => y.1 c0)]
        · rw [if_neg c0]
          by_cases c1 : e.2.1 ≠ 1
          · rw [if_pos ⟨rfl, c1⟩, if_pos ⟨c0, sr.mpr c1⟩]
          · rw [if_neg (fun y => c1 y.2), if_neg (fun y => c1 (sr.mp y.2))]
    refine ⟨E9 sm nms (if co = 0 then 0 else 1), Cf, uqE _ eE, big, fun _ _ => ⟨rfl, fun v hv => ⟨(cf2 v hv).1, (cf2 v hv).2.1, (cf2 v hv).2.2, fun h1 hne => ?_⟩⟩⟩
    rcases ct.fnd wt (by rw [hl]; exact hw) hv h1 with ⟨q1, q2⟩ | ⟨i, e, q1, q2, q3, q4⟩
    · unfold E9 at hne
      rw [q2] at hne
      exact absurd rfl hne
    · rw [hl] at q1
      unfold E9 at hne
      rw [q3] at hne
      have ne : ¬ ((if co = 0 then (0 : Int) else 1) = 1 ∧ e.2.1 ≠ 1) := fun y => hne (if_pos y)
      have no : ¬ (mI M r 6 ≠ 0 ∧ mI M (r + 7) i ≠ 4) := fun y => ne ⟨by rw [if_neg (by rw [← hco]; exact y.1)], (srt q2).mp y.2⟩
      refine ⟨i, e, q2, q3, ?_, ?_, q4⟩
      · by_cases c0 : co = 0
        · exact Or.inl c0
        · rw [if_neg c0] at ne
          exact Or.inr (Classical.byContradiction (fun y => ne ⟨rfl, y⟩))
      · rw [cf1 v hv h1, fi_s v i q1]
        exact if_neg no
  · refine ⟨E0, Cf, uqE E0 (fun _ _ _ => rfl), big, fun ct hl => absurd ⟨ct, hl⟩ hc⟩
end TXA
end
section
/-! The class's program tells the game: where the orders of its rules lie. -/
/-- the orders of words; r the names that are known -/
def LfC (W nq : Nat → Int) (sm : Nat → Nat → Prop) (n : Nat) (r : List nm9) (ec : Nat → Int × Int) : Prop := (∀ k, n ≤ k → ec k = (3, 0)) ∧ ∀ k, k < n → (W k = 2 → ec k = (3, nq k)) ∧ (W k = 12 → ec k = (3, 1)) ∧ (W k = 13 → ec k = (3, 0)) ∧ (W k = 1 → ∀ l1 e l2, r = l1 ++ e :: l2 → sm e.1 k → (∀ e', e' ∈ l1 → ¬ sm e'.1 k) → ec k = (srt9 e.2.1, if e.2.1 = 3 then ((vcn l1 : Nat) : Int) else ((rcn l1 : Nat) : Int)))
/-- a rule's orders begin at s -/
def RuC (M : mM) (O P L : Nat) (W pl nq : Nat → Int) (sm : Nat → Nat → Prop) (n : Nat) (ns : Nat → Int) (ef : Nat → Nat) (nms : List nm9) (i j s : Nat) : Prop := ∃ (r l : List nm9) (ec : Nat → Int × Int) (e : Nat), nms = r ++ l ∧ Eo W 6 i j ∧ j ≤ n ∧ (fl W (E9 sm r 0) pl 0 i j).1 = 0 ∧ LfC W nq sm n r ec ∧ (∀ x, x < rcn r → ns x = 7 → ef x < s) ∧ Cd W ec pl (mI M O) (mI M P) 0 0 0 i j s e ∧ e < L ∧ mI M O e = 0
/-- the orders of sets: the var, its rule from i to j, the word whose place a fault tells; Φ what the words' orders are -/
def Scw (Φ : (Nat → Int × Int) → Prop) (w pl : Nat → Int) (O P : Nat → Int) : List (Nat × Nat × Nat × Nat) → Nat → Nat → Prop
  | [], s, e => s = e
  | q :: r, s, e => ∃ (a : Nat) (ec : Nat → Int × Int), Φ ec ∧ Cd w ec pl O P 0 0 0 q.2.1 q.2.2.1 s a ∧ O a = 43 ∧ P a = pl q.2.2.2 * 16 + (q.1 : Int) ∧ Scw Φ w pl O P r (a + 1) e
theorem Scw.le {Φ : (Nat → Int × Int) → Prop} {w pl O P : Nat → Int} : ∀ (l : List (Nat × Nat × Nat × Nat)) {s e : Nat}, Scw Φ w pl O P l s e → s ≤ e
  | [], _, _, h => Nat.le_of_eq h
  | q :: r, s, e, h => by
    obtain ⟨a, ec, -, c1, -, -, c2⟩ := h
    have l1 := c1.lt
    have l2 := Scw.le r c2
    omega
theorem Scw.cg {Φ : (Nat → Int × Int) → Prop} {w pl A B A' B' : Nat → Int} : ∀ (l : List (Nat × Nat × Nat × Nat)) {s e : Nat}, Scw Φ w pl A B l s e → (∀ t, s ≤ t → t < e → A' t = A t ∧ B' t = B t) → Scw Φ w pl A' B' l s e
  | [], s, e, h, _ => h
  | q :: r, s, e, h, c => by
    obtain ⟨a, ec, hφ, c1, c2, c3, c4⟩ := h
    have l1 := c1.lt
    have l2 := Scw.le r c4
    exact ⟨a, ec, hφ, c1.cg (fun t t1 t2 => c t t1 (by omega)), by rw [(c a (by omega) (by omega)).1]; exact c2, by rw [(c a (by omega) (by omega)).2]; exact c3, Scw.cg r c4 (fun t t1 t2 => c t (by omega) t2)⟩
/-- one set more -/
theorem Scw.add {Φ : (Nat → Int × Int) → Prop} {w pl O P : Nat → Int} {q : Nat × Nat × Nat × Nat} {a : Nat} {ec : Nat → Int × Int} (hφ : Φ ec) : ∀ (l : List (Nat × Nat × Nat × Nat)) {s e : Nat}, Scw Φ w pl O P l s e → Cd w ec pl O P 0 0 0 q.2.1 q.2.2.1 e a → O a = 43 → P a = pl q.2.2.2 * 16 + (q.1 : Int) → Scw Φ w pl O P (l ++ [q]) s (a + 1)
  | [], s, e, h, c1, c2, c3 => by
    have h : s = e := h
    subst h
    exact ⟨a, ec, hφ, c1, c2, c3, rfl⟩
  | q' :: r, s, e, h, c1, c2, c3 => by
    obtain ⟨a', ec', hφ', d1, d2, d3, d4⟩ := h
    exact ⟨a', ec', hφ', d1, d2, d3, Scw.add hφ r d4 c1 c2 c3⟩
/-- the orders of a branch's sets begin at s -/
def SeC (M : mM) (O P L V : Nat) (W pl nq : Nat → Int) (sm : Nat → Nat → Prop) (n : Nat) (ns : Nat → Int) (ef : Nat → Nat) (nms : List nm9) (l : List (Nat × Nat × Nat × Nat)) (s : Nat) : Prop := ∃ (r l' : List nm9) (e : Nat), nms = r ++ l' ∧ (∀ q, q ∈ l → Eo W 6 q.2.1 q.2.2.1 ∧ q.2.2.1 ≤ n ∧ (fl W (E9 sm r 0) pl 0 q.2.1 q.2.2.1).1 = 0 ∧ q.1 < V ∧ 0 ≤ pl q.2.2.2 ∧ pl q.2.2.2 ≤ 16384) ∧ (∀ x, x < rcn r → ns x = 7 → ef x < s) ∧ Scw (LfC W nq sm n r) W pl (mI M O) (mI M P) l s e ∧ e < L ∧ mI M O e = 0
/-- consts and formulas lie in the program -/
def FmC (M : mM) (p O P L : Nat) (W pl nq : Nat → Int) (sm : Nat → Nat → Prop) (N n : Nat) (ns : Nat → Int) (sf ef : Nat → Nat) (nms : List nm9) : Prop := ∀ l1 e l2, nms = l1 ++ e :: l2 → e.2.1 ≠ 3 → ns (rcn l1) = srt9 e.2.1 ∧ (e.2.1 = 1 → e.2.2.2 = (0, mI M (p + 6) (rcn l1), mI M (p + 7) (rcn l1)) ∧ 1 ≤ mI M (p + 7) (rcn l1) ∧ mI M (p + 7) (rcn l1) < 1000000000) ∧ (e.2.1 = 2 → mI M (p + 8) (rcn l1) = ((sf (rcn l1) : Nat) : Int) ∧ sf (rcn l1) < ef (rcn l1) ∧ ef (rcn l1) < L ∧ mI M O (ef (rcn l1)) = 0 ∧ (∀ y, y < rcn l1 → ns y = 7 → ef y < sf (rcn l1)) ∧ ∃ ec, LfC W nq sm n l1 ec ∧ Cd W ec pl (mI M O) (mI M P) 0 0 0 (e.1 + 2) (nxq W 34 N e.1) (sf (rcn l1)) (ef (rcn l1)))
/-- the vars' ranges are sound -/
def VrO (nms : List nm9) (lo hi : Nat → Int) : Prop := ∀ l1 e l2, nms = l1 ++ e :: l2 → e.2.1 = 3 → ((lo (vcn l1)).natAbs ≤ 999999999 ∧ (hi (vcn l1)).natAbs ≤ 999999999) ∧ (e.2.2.1 = 1 → lo (vcn l1) = 0 ∧ hi (vcn l1) = 1)
/-- a command in the program -/
def CmC (M : mM) (p O P L V : Nat) (W pl nq : Nat → Int) (sm : Nat → Nat → Prop) (n : Nat) (ns : Nat → Int) (ef : Nat → Nat) (nms : List nm9) (c : Nat) (cm : cm9) : Prop := mI M (p + 9) c = cm.1 ∧ (cm.1 = 1 ∨ cm.1 = 2) ∧ mI M (p + 10) c = cm.2.1 ∧ (∃ s : Nat, mI M (p + 11) c = ((s : Nat) : Int) ∧ RuC M O P L W pl nq sm n ns ef nms cm.2.2.1.1 cm.2.2.1.2 s) ∧ ∃ u v : Nat, mI M (p + 12) c = ((u : Nat) : Int) ∧ mI M (p + 12) (c + 1) = ((v : Nat) : Int) ∧ (u ≤ v ∧ v ≤ u + 8 ∧ v ≤ 480) ∧ cm.2.2.2.length = v - u ∧ ∀ (b : Nat) (x : br9), cm.2.2.2[b]? = some x → mI M (p + 13) (u + b) = x.1 ∧ (∃ s : Nat, mI M (p + 14) (u + b) = ((s : Nat) : Int) ∧ RuC M O P L W pl nq sm n ns ef nms x.2.1.1 x.2.1.2 s) ∧ ∃ s : Nat, mI M (p + 15) (u + b) = ((s : Nat) : Int) ∧ SeC M O P L V W pl nq sm n ns ef nms x.2.2 s
/-- the program tells the game: its target, its commands -/
def PGx (M : mM) (p O P L V cnt : Nat) (W pl nq : Nat → Int) (sm : Nat → Nat → Prop) (n : Nat) (ns : Nat → Int) (ef : Nat → Nat) (nms : List nm9) (tg : Nat × Nat) (cms : List cm9) : Prop := VrO nms (mI M (p + 3)) (mI M (p + 4)) ∧ SgO (mI M (p + 5)) nms ∧ (∃ s : Nat, mI M p 11 = ((s : Nat) : Int) ∧ RuC M O P L W pl nq sm n ns ef nms tg.1 tg.2 s) ∧ cms.length = cnt ∧ ∀ (c : Nat) (cm : cm9), cms[c]? = some cm → CmC M p O P L V W pl nq sm n ns ef nms c cm
section PRG
variable {p O P L L' V n N : Nat} {M0 M M' : mM} {ns ns' : Nat → Int} {sf ef ef' : Nat → Nat} {W pl nq : Nat → Int} {sm : Nat → Nat → Prop} {nms : List nm9}
theorem FmC.cg (h : FmC M0 p O P L W pl nq sm N n ns sf ef nms) (e6 : mI M (p + 6) = mI M0 (p + 6)) (e7 : mI M (p + 7) = mI M0 (p + 7)) (e8 : mI M (p + 8) = mI M0 (p + 8)) (eO : mI M O = mI M0 O) (eP : mI M P = mI M0 P) : FmC M p O P L W pl nq sm N n ns sf ef nms := by
  unfold FmC
  rw [e6, e7, e8, eO, eP]
  exact h
theorem srt_7 {s : Nat} (h : srt9 s = 7) : s = 2 := by
  unfold srt9 at h
  by_cases y : s = 1
  · rw [if_pos y] at h; exact absurd h (by decide)
  · rw [if_neg y] at h
    by_cases y2 : s = 2
    · exact y2
    · rw [if_neg y2] at h; exact absurd h (by decide)
/-- code is the same below L -/
def cdE (O P L : Nat) (M M' : mM) : Prop := ∀ i, i < L → mI M' O i = mI M O i ∧ mI M' P i = mI M P i
theorem RuC.step {i j s : Nat} {l9 : List nm9} (h : RuC M O P L W pl nq sm n ns ef nms i j s) (c : cdE O P L M M') (hL : L ≤ L') (e : ∀ x, x < rcn nms → ns' x = ns x ∧ ef' x = ef x) : RuC M' O P L' W pl nq sm n ns' ef' (nms ++ l9) i j s := by
  obtain ⟨r, l, ec, e9, u1, u2, u3, u4, u5, u6, u7, u8, u9⟩ := h
  have rl : rcn nms = rcn r + rcn l := by rw [u1, rcn_app]
  exact ⟨r, l ++ l9, ec, e9, by rw [u1, List.append_assoc], u2, u3, u4, u5, fun x hx h7 => by
    rw [(e x (by omega)).1] at h7
    rw [(e x (by omega)).2]
    exact u6 x hx h7, u7.cg (fun t _ t2 => c t (by omega)), by omega, by rw [(c e9 (by omega)).1]; exact u9⟩
theorem SeC.step {l9 : List nm9} {V' s : Nat} {l : List (Nat × Nat × Nat × Nat)} (h : SeC M O P L V W pl nq sm n ns ef nms l s) (c : cdE O P L M M') (hL : L ≤ L') (hV : V ≤ V') (e : ∀ x, x < rcn nms → ns' x = ns x ∧ ef' x = ef x) : SeC M' O P L' V' W pl nq sm n ns' ef' (nms ++ l9) l s := by
  obtain ⟨r, l', e9, u1, u2, u6, u7, u8, u9⟩ := h
  have rl : rcn nms = rcn r + rcn l' := by rw [u1, rcn_app]
  exact ⟨r, l' ++ l9, e9, by rw [u1, List.append_assoc], fun q hq => ⟨(u2 q hq).1, (u2 q hq).2.1, (u2 q hq).2.2.1, by have := (u2 q hq).2.2.2.1; omega, (u2 q hq).2.2.2.2⟩, fun x hx h7 => by
    rw [(e x (by omega)).1] at h7
    rw [(e x (by omega)).2]
    exact u6 x hx h7, Scw.cg l u7 (fun t _ t2 => c t (by omega)), by omega, by rw [(c e9 (by omega)).1]; exact u9⟩
end PRG
end
end
