section
/-! The reference's solver: how many unknown states, and how heavy. -/
theorem l_shl1 : ∀ k : Nat, k < 63 → shlL 1 (k : Int) = 2 ^ k := by decide
def sm (f : Nat → Int) : Nat → Int
  | 0 => 0
  | n + 1 => sm f n + f n
theorem sm_congr {f g : Nat → Int} : ∀ (n : Nat), (∀ j, j < n → f j = g j) → sm f n = sm g n
  | 0, _ => rfl
  | n + 1, h => by rw [sm, sm, sm_congr n (fun j hj => h j (by omega)), h n (by omega)]
/-- a state whose value must be worked out -/
abbrev unk (M : mM) (s i : Nat) : Prop := mI M (s + 36) i ≠ 0 ∧ mI M (s + 22) i ≠ 3
/-- w bits hold twice what each command of state i that may be taken is divided by -/
def hvy (M : mM) (s i : Nat) (w : Int) : Prop := 0 ≤ w ∧ w ≤ 32 ∧ ∃ D : Int, 1 ≤ D ∧ 2 * D ≤ 2 ^ w.toNat ∧ ∀ k : Nat, (k : Int) < mny M s i → mayP M s i k → mI M (s + 24) ((mI M (s + 23) i).toNat + k) ≤ D
def lokQ (M : mM) (s : Nat) : Prop := ∃ w : Nat → Int, (∀ i : Nat, (i : Int) < mI M s 1 → (unk M s i → hvy M s i (w i)) ∧ (¬ unk M s i → w i = 0)) ∧ sm w (mI M s 1).toNat ≤ 480 ∧ sm (fun i => if unk M s i then 1 else 0) (mI M s 1).toNat ≤ 40
section VS
variable {G : mG} {d s : Nat} {M : mM}
theorem s_MS_weight {j : Int} (h0 : 1 ≤ j) (h1 : j < 2147483648) (hO : mOk M) : Ci G y_MS_weight d [vl j] M (fun x M' => M' = M ∧ 0 ≤ x ∧ x ≤ 32 ∧ 2 * j ≤ 2 ^ x.toNat) := by
  refine k_MS_weight hO ⟨by omega, by omega⟩ ?_
  suffices H : ∀ (n l : Nat), n + l = 32 → h_MS_weight_2 G d j l M (fun x M' => M' = M ∧ 0 ≤ x ∧ x ≤ 32 ∧ 2 * j ≤ 2 ^ x.toNat) from H 32 0 rfl
  intro n
  induction n with
  | zero =>
    intro l hl
    have e : l = 32 := by omega
    subst e
    refine k_MS_weight_2 hO ⟨by omega, by omega⟩ ⟨by omega, by omega⟩ ⟨⟨by omega, by omega⟩, fun _ => ⟨rfl, by omega, by omega, ?_⟩, fun c => absurd ?_ c⟩
    · show 2 * j ≤ 4294967296
      omega
    · rw [l_shl1 32 (by omega)]
      unfold cmpL
      split
      · omega
      · have : 2 * j ≤ (2 : Int) ^ 32 := by show 2 * j ≤ 4294967296; omega
        rw [if_pos (by omega)]; omega
  | succ n ih =>
    intro l hl
    refine k_MS_weight_2 hO ⟨by omega, by omega⟩ ⟨by omega, by omega⟩ ⟨⟨by omega, by omega⟩, fun c => ⟨rfl, by omega, by omega, ?_⟩, fun _ => ih (l + 1) (by omega)⟩
    rw [l_shl1 l (by omega)] at c
    rw [Int.toNat_natCast]
    unfold cmpL at c
    split at c
    · omega
    · split at c <;> omega
theorem s_MS_look (hO : mOk M) (hV : Vk M s) (hG : GW M s) : Ci G y_MS_look (d + 3) [vr s] M (fun x M' => gvQ M s 0 M' ∧ (x = 0 ∨ x = 5 ∨ x = 6) ∧ (x = 0 → lokQ M' s)) := by
  have g1 := hG.1
  have g2 := hG.2.1
  have g3 := hG.2.2.1
  refine k_MS_look hO ⟨hV.k0, (s_MS_grow ⟨by omega, by omega⟩ hO hV hG).mono (fun M1 h1 => ?_)⟩
  obtain ⟨ρ, t, hg⟩ := h1.1
  obtain ⟨o1, f1, -⟩ := hg
  have hV1 := hV.fi f1
  have hG1 := hG.out f1 (by omega) (fun x _ _ => by omega)
  have es : mI M1 s = mI M s := f1.2.2.2.2.2.2 s (by omega)
  refine ⟨o1, ?_⟩
  suffices H : ∀ (n i : Nat) (c a : Int) (w : Nat → Int), mI M s 1 - i = n → (∀ j : Nat, j < i → (unk M1 s j → hvy M1 s j (w j)) ∧ (¬ unk M1 s j → w j = 0)) → a = sm w i → c = sm (fun i => if unk M1 s i then 1 else 0) i → 0 ≤ a → a ≤ 32 * i → 0 ≤ c → c ≤ i → h_MS_look_11 G (d + 2) s c a i M1 (fun x M' => gvQ M s 0 M' ∧ (x = 0 ∨ x = 5 ∨ x = 6) ∧ (x = 0 → lokQ M' s)) from
    H (mI M s 1).toNat 0 0 0 (fun _ => 0) (by omega) (fun j hj => by omega) rfl rfl (by omega) (by omega) (by omega) (by omega)
  intro n
  induction n with
  | zero =>
    intro i c a w hn hw ha hc a0 a1 c0 c1
    refine k_MS_look_11 o1 ⟨by omega, by omega⟩ ⟨by omega, by omega⟩ ⟨by omega, by omega⟩ ?_
    rw [es]
    have ei : (mI M s 1).toNat = i := by omega
    refine ⟨hV1.k0, fun _ v hv => ⟨h1, by split at hv <;> (try split at hv) <;> omega, fun z => ⟨w, fun j hj => hw j (by rw [es] at hj; omega), ?_, ?_⟩⟩, fun q => by omega⟩
    · rw [es, ei, ← ha]
      split at hv <;> (try split at hv) <;> omega
    · rw [es, ei, ← hc]
      split at hv <;> (try split at hv) <;> omega
  | succ n ih =>
    intro i c a w hn hw ha hc a0 a1 c0 c1
    have hi : (i : Int) < mI M1 s 1 := by rw [es]; omega
    have hcm := hG1.cmd hi
    rw [es] at hcm
    have hm0 : 0 ≤ mny M1 s i ∧ mny M1 s i ≤ 4200 := by unfold mny; omega
    refine k_MS_look_11 o1 ⟨by omega, by omega⟩ ⟨by omega, by omega⟩ ⟨by omega, by omega⟩ ?_
    rw [es, hV1.r4, hV1.r19, hV1.n22, hV1.n36, Int.toNat_natCast]
    refine ⟨hV1.k0, fun q => by omega, fun _ => ⟨hV1.k36, by omega, fun _ => ⟨hV1.k22, by omega⟩, fun q => ?_, fun q => ?_⟩⟩
    · have hu : ¬ unk M1 s i := fun u => by rcases q with q | q; exact u.1 q; exact u.2 q
      refine ih (i + 1) c a (fun j => if j = i then 0 else w j) (by omega) (fun j hj => ?_) ?_ ?_ a0 (by omega) c0 (by omega)
      · by_cases z : j = i
        · subst z
          exact ⟨fun u => absurd u hu, fun _ => if_pos rfl⟩
        · show (unk M1 s j → hvy M1 s j (if j = i then 0 else w j)) ∧ (¬ unk M1 s j → (if j = i then 0 else w j) = 0)
          rw [if_neg z]
          exact hw j (by omega)
      · rw [sm, sm_congr (g := w) i (fun j hj => if_neg (by omega)), if_pos rfl, ha, Int.add_zero]
      · rw [sm, if_neg hu, hc, Int.add_zero]
    · have hu : unk M1 s i := ⟨fun z => q (Or.inl z), fun z => q (Or.inr z)⟩
      suffices H2 : ∀ (m k : Nat) (D : Int), mny M1 s i - k = m → 1 ≤ D → D < 2147483648 → (∀ k' : Nat, k' < k → mayP M1 s i k' → mI M1 (s + 24) ((mI M1 (s + 23) i).toNat + k') ≤ D) → h_MS_look_47 G (d + 2) s (c + 1) a i D k M1 (fun x M' => gvQ M s 0 M' ∧ (x = 0 ∨ x = 5 ∨ x = 6) ∧ (x = 0 → lokQ M' s)) from
        H2 (mny M1 s i).toNat 0 1 (by omega) (by omega) (by omega) (fun k' hk => by omega)
      intro m
      induction m with
      | zero =>
        intro k D hm d1 d2 hD
        refine k_MS_look_47 o1 ⟨by omega, by omega⟩ ⟨by omega, by omega⟩ ⟨by omega, by omega⟩ ⟨by omega, by omega⟩ ⟨by omega, by omega⟩ ⟨hV1.k0, (s_MS_many o1 hV1 hG1 hi).mono (fun x M2 h2 => ?_)⟩
        obtain ⟨e2, hx⟩ := h2
        subst e2
        refine ⟨⟨by omega, by omega⟩, o1, fun _ => ?_, fun z => by omega⟩
        refine (s_MS_weight d1 d2 o1).mono (fun y M3 h3 => ?_)
        obtain ⟨e3, y0, y1, y2⟩ := h3
        subst e3
        refine ⟨⟨by omega, by omega⟩, o1, ?_⟩
        refine ih (i + 1) (c + 1) (a + y) (fun j => if j = i then y else w j) (by omega) (fun j hj => ?_) ?_ ?_ (by omega) (by omega) (by omega) (by omega)
        · by_cases z : j = i
          · subst z
            refine ⟨fun _ => ?_, fun u => absurd hu u⟩
            show hvy M3 s j (if j = j then y else w j)
            rw [if_pos rfl]
            exact ⟨y0, y1, D, d1, y2, fun k' hk' hp => hD k' (by omega) hp⟩
          · show (unk M3 s j → hvy M3 s j (if j = i then y else w j)) ∧ (¬ unk M3 s j → (if j = i then y else w j) = 0)
            rw [if_neg z]
            exact hw j (by omega)
        · rw [sm, sm_congr (g := w) i (fun j hj => if_neg (by omega)), if_pos rfl, ha]
        · rw [sm, if_pos hu, hc]
      | succ m ih2 =>
        intro k D hm d1 d2 hD
        have hk9 : (k : Int) < 100000 := by omega
        refine k_MS_look_47 o1 ⟨by omega, by omega⟩ ⟨by omega, by omega⟩ ⟨by omega, by omega⟩ ⟨by omega, by omega⟩ ⟨by omega, by omega⟩ ⟨hV1.k0, (s_MS_many o1 hV1 hG1 hi).mono (fun x M2 h2 => ?_)⟩
        obtain ⟨e2, hx⟩ := h2
        subst e2
        have ec : (mI M2 (s + 23) i + (k : Int)).toNat = (mI M2 (s + 23) i).toNat + k := by omega
        have hik : (k : Int) < mI M2 (s + 23) (i + 1) - mI M2 (s + 23) i := by have : mny M2 s i = mI M2 (s + 23) (i + 1) - mI M2 (s + 23) i := rfl; omega
        rw [hV1.r5, hV1.r6, hV1.n23, hV1.n24, Int.toNat_natCast, ec]
        refine ⟨⟨by omega, by omega⟩, o1, fun z => by omega, fun _ => ⟨hV1.k0, hV1.k23, by omega, hV1.k24, by omega, ?_⟩⟩
        refine (s_MS_may hk9 o1 hV1 hG1 hi).mono (fun y M3 h3 => ?_)
        obtain ⟨e3, hy, hqy⟩ := h3
        subst e3
        refine ⟨⟨by omega, by omega⟩, o1, fun v hv => ?_⟩
        have hr : mI M3 (s + 24) ((mI M3 (s + 23) i).toNat + k) < 2147483648 := by have := (o1 (s + 24) ((mI M3 (s + 23) i).toNat + k)).1; unfold i32 at this; omega
        refine ih2 (k + 1) v (by omega) (by split at hv <;> omega) (by split at hv <;> omega) (fun k' hk' hp => ?_)
        by_cases z : k' = k
        · subst z
          have hy0 : y ≠ 0 := hqy.2 hp
          split at hv <;> omega
        · have := hD k' (by omega) hp
          split at hv <;> omega
end VS
end
section
/-! Determinants: by the first row. -/
theorem sm_add {f g : Nat → Int} : ∀ (n : Nat), sm (fun j => f j + g j) n = sm f n + sm g n
  | 0 => rfl
  | n + 1 => by rw [sm, sm, sm, sm_add n]; omega
theorem sm_mul {f : Nat → Int} {x : Int} : ∀ (n : Nat), sm (fun j => x * f j) n = x * sm f n
  | 0 => by simp [sm]
  | n + 1 => by rw [sm, sm, sm_mul n, Int.mul_add]
theorem sm_zero {f : Nat → Int} : ∀ (n : Nat), (∀ j, j < n → f j = 0) → sm f n = 0
  | 0, _ => rfl
  | n + 1, h => by rw [sm, sm_zero n (fun j hj => h j (by omega)), h n (by omega)]; rfl
/-- only two terms, which cancel -/
theorem sm_two {f : Nat → Int} {c : Nat} (h : f c + f (c + 1) = 0) : ∀ (n : Nat), c + 1 < n → (∀ j, j < n → j ≠ c → j ≠ c + 1 → f j = 0) → sm f n = 0
  | 0, hc, _ => by omega
  | n + 1, hc, h0 => by
    rw [sm]
    by_cases q : n = c + 1
    · subst q
      rw [sm, sm_zero c (fun j hj => h0 j (by omega) (by omega) (by omega))]
      omega
    · rw [sm_two h n (by omega) (fun j hj => h0 j (by omega)), h0 n (by omega) (by omega) (by omega)]
      rfl
def sk (j c : Nat) : Nat := if c < j then c else c + 1
def del (j : Nat) (A : Nat → Nat → Int) : Nat → Nat → Int := fun r c => A (r + 1) (sk j c)
def det : Nat → (Nat → Nat → Int) → Int
  | 0, _ => 1
  | n + 1, A => sm (fun j => (-1) ^ j * A 0 j * det n (del j A)) (n + 1)
theorem det_congr : ∀ (n : Nat) {A B : Nat → Nat → Int}, (∀ r c, r < n → c < n → A r c = B r c) → det n A = det n B
  | 0, _, _, _ => rfl
  | n + 1, A, B, h => by
    rw [det, det]
    refine sm_congr (n + 1) (fun j hj => ?_)
    rw [h 0 j (by omega) hj, det_congr n (A := del j A) (B := del j B) (fun r c hr hc => ?_)]
    unfold del sk
    exact h _ _ (by omega) (by split <;> omega)
def rc (A : Nat → Nat → Int) (c : Nat) (v : Nat → Int) : Nat → Nat → Int := fun r k => if k = c then v r else A r k
theorem del_rc_ne {A : Nat → Nat → Int} {c j : Nat} {v : Nat → Int} (h : j ≠ c) : del j (rc A c v) = rc (del j A) (if j < c then c - 1 else c) (fun r => v (r + 1)) := by
  funext r k
  have e : sk j k = c ↔ k = (if j < c then c - 1 else c) := by unfold sk; split <;> split <;> omega
  show (if sk j k = c then v (r + 1) else A (r + 1) (sk j k)) = (if k = (if j < c then c - 1 else c) then v (r + 1) else A (r + 1) (sk j k))
  by_cases q : sk j k = c
  · rw [if_pos q, if_pos (e.1 q)]
  · rw [if_neg q, if_neg (fun w => q (e.2 w))]
theorem del_rc_eq {A : Nat → Nat → Int} {c : Nat} {v : Nat → Int} : del c (rc A c v) = del c A := by
  funext r k
  unfold del rc sk
  rw [if_neg (by split <;> omega)]
theorem det_lin : ∀ (n : Nat) {A : Nat → Nat → Int} {c : Nat} {x : Int} {u w : Nat → Int}, c < n → det n (rc A c (fun r => x * u r + w r)) = x * det n (rc A c u) + det n (rc A c w)
  | 0, _, _, _, _, _, h => by omega
  | n + 1, A, c, x, u, w, h => by
    rw [det, det, det, ← sm_mul, ← sm_add]
    refine sm_congr (n + 1) (fun j hj => ?_)
    by_cases q : j = c
    · subst q
      rw [del_rc_eq, del_rc_eq, del_rc_eq]
      show (-1) ^ j * (if j = j then x * u 0 + w 0 else A 0 j) * _ = x * ((-1) ^ j * (if j = j then u 0 else A 0 j) * _) + (-1) ^ j * (if j = j then w 0 else A 0 j) * _
      rw [if_pos rfl, if_pos rfl, if_pos rfl]
      generalize (-1 : Int) ^ j = s
      generalize det n (del j A) = D
      grind
    · rw [del_rc_ne q, del_rc_ne q, del_rc_ne q]
      show (-1) ^ j * (if j = c then x * u 0 + w 0 else A 0 j) * det n (rc (del j A) (if j < c then c - 1 else c) (fun r => x * u (r + 1) + w (r + 1))) = x * ((-1) ^ j * (if j = c then u 0 else A 0 j) * _) + (-1) ^ j * (if j = c then w 0 else A 0 j) * _
      rw [if_neg q, if_neg q, if_neg q, det_lin n (A := del j A) (u := fun r => u (r + 1)) (w := fun r => w (r + 1)) (by split <;> omega)]
      generalize (-1 : Int) ^ j = s
      generalize det n (rc (del j A) _ (fun r => u (r + 1))) = D
      generalize det n (rc (del j A) _ (fun r => w (r + 1))) = E
      grind
theorem det_adj : ∀ (n : Nat) {A : Nat → Nat → Int} {c : Nat}, c + 1 < n → (∀ r, r < n → A r c = A r (c + 1)) → det n A = 0
  | 0, _, _, h, _ => by omega
  | n + 1, A, c, h, e => by
    rw [det]
    refine sm_two (c := c) ?_ (n + 1) h (fun j hj j1 j2 => ?_)
    · have hd : det n (del c A) = det n (del (c + 1) A) := by
        refine det_congr n (fun r k hr hk => ?_)
        unfold del sk
        by_cases q : k < c
        · rw [if_pos q, if_pos (by omega)]
        · by_cases z : k = c
          · subst z
            rw [if_neg q, if_pos (by omega)]
            exact (e (r + 1) (by omega)).symm
          · rw [if_neg q, if_neg (by omega)]
      rw [hd, e 0 (by omega), Int.pow_succ]
      generalize (-1 : Int) ^ c = s
      generalize det n (del (c + 1) A) = D
      grind
    · have hz : det n (del j A) = 0 := by
        by_cases q : j < c
        · refine det_adj n (c := c - 1) (by omega) (fun r hr => ?_)
          unfold del sk
          rw [if_neg (by omega), if_neg (by omega), show c - 1 + 1 = c by omega]
          exact e (r + 1) (by omega)
        · refine det_adj n (c := c) (by omega) (fun r hr => ?_)
          unfold del sk
          rw [if_pos (by omega), if_pos (by omega)]
          exact e (r + 1) (by omega)
      rw [hz, Int.mul_zero]
end
