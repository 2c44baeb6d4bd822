section
/-! The solver: the states that come to the end, and their rows. -/
/-- what is played is a command that may be taken -/
def PLo (M : mM) (s : Nat) : Prop := ∀ k : Nat, (k : Int) < mI M s 1 → 0 < mny M s k → 0 ≤ mI M (s + 35) k ∧ mI M (s + 35) k < mny M s k ∧ mayP M s k (pl M s k)
def sameW (M M' : mM) (s : Nat) : Prop := sameG M M' s ∧ mI M' s 17 = mI M s 17 ∧ mI M' (s + 32) = mI M (s + 32)
theorem sameW.refl {M : mM} {s : Nat} : sameW M M s := ⟨sameG.refl, rfl, rfl⟩
theorem sameW.trans {M M' M'' : mM} {s : Nat} (h : sameW M M' s) (h' : sameW M' M'' s) : sameW M M'' s := ⟨h.1.trans h'.1, h'.2.1.trans h.2.1, h'.2.2.trans h.2.2⟩
theorem sameW.of {S : Nat → Prop} {M M' : mM} {s : Nat} (f : FI S M M') (h0 : ¬ S s) (h1 : ∀ x, s + 22 ≤ x → x ≤ s + 28 → ¬ S x) (h2 : ¬ S (s + 32)) : sameW M M' s :=
  ⟨sameG.of f h0 h1, by rw [f.2.2.2.2.2.2 s h0], f.2.2.2.2.2.2 _ h2⟩
theorem sameW.may {M M' : mM} {s : Nat} (h : sameW M M' s) : mayP M' s = mayP M s := by
  funext k i
  unfold mayP
  rw [h.2.1, h.2.2, h.1.2.2.2 (s + 22) (by omega) (by omega)]
theorem sameG.hld {M M' : mM} {s : Nat} (h : sameG M M' s) : LD M' s = LD M s := by
  funext k i T
  unfold LD
  rw [h.hn, h.hx, h.ht, h.hb]
def Rnk (M : mM) (s n : Nat) (A : Nat → Prop) (ρ σ : Nat → Nat) : Prop := ∀ k, k < n → A k → mI M (s + 22) k ≠ 3 → (mI M (s + 22) k = 1 ∧ (σ k : Int) < mny M s k ∧ LD M s k (σ k) (fun t => A t ∧ ρ t < ρ k)) ∨ (mI M (s + 22) k = 2 ∧ 0 < mny M s k ∧ ∀ i : Nat, (i : Int) < mny M s k → mayP M s k i → LD M s k i (fun t => A t ∧ ρ t < ρ k))
def Fix (M : mM) (s n : Nat) (A : Nat → Prop) (σ : Nat → Nat) : Prop := (∀ k, k < n → mI M (s + 22) k = 3 → A k) ∧ ∀ k, k < n → ¬ A k → (mI M (s + 22) k = 1 → (σ k : Int) < mny M s k → ¬ LD M s k (σ k) A) ∧ (mI M (s + 22) k = 2 → 0 < mny M s k → ∃ i : Nat, (i : Int) < mny M s k ∧ mayP M s k i ∧ ¬ LD M s k i A)
/-- look has found at most 40 unknown states, not too heavy -/
def LQ (M : mM) (s n : Nat) : Prop := ∃ τ w : Nat → Int, (∀ k, k < n → mI M (s + 22) k = 3 → τ k ≠ 0) ∧ (∀ k, k < n → τ k = 0 → (mI M (s + 22) k = 1 → ∀ i : Nat, (i : Int) < mny M s k → mayP M s k i → ¬ LD M s k i (fun t => τ t ≠ 0)) ∧ (mI M (s + 22) k = 2 → 0 < mny M s k → ∃ i : Nat, (i : Int) < mny M s k ∧ mayP M s k i ∧ ¬ LD M s k i (fun t => τ t ≠ 0)))
  ∧ (∀ k, k < n → τ k ≠ 0 → mI M (s + 22) k ≠ 3 → 0 ≤ w k ∧ ∀ i : Nat, (i : Int) < mny M s k → mayP M s k i → 2 * mI M (s + 24) (cx M s k i) ≤ 2 ^ (w k).toNat) ∧ (∀ k, k < n → 0 ≤ w k) ∧ sm w n ≤ 480 ∧ sm (fun k => if τ k ≠ 0 ∧ mI M (s + 22) k ≠ 3 then 1 else 0) n ≤ 40
theorem sameW.lq {M M' : mM} {s n : Nat} (h : sameW M M' s) (r : LQ M s n) : LQ M' s n := by
  unfold LQ at r ⊢
  rw [h.1.hm, h.may, h.1.hld, h.1.hx, h.1.2.2.2 (s + 22) (by omega) (by omega), h.1.2.2.2 (s + 24) (by omega) (by omega)]
  exact r
theorem LD.mono {M : mM} {s k i : Nat} {T T' : Nat → Prop} (h : LD M s k i T) (hG : GW M s) (hk : (k : Int) < mI M s 1) (hi : (i : Int) < mny M s k) (ht : ∀ t : Nat, (t : Int) < mI M s 1 → T t → T' t) : LD M s k i T' := by
  obtain ⟨b, h1, h2⟩ := h
  exact ⟨b, h1, ht _ (tg_lt hG (cx_lt hG hk hi) h1) h2⟩
section RK
variable {M M1 : mM} {s n t : Nat} {ρ : Nat → Nat}
theorem gv_rnk (hG : GW M s) (hn : mI M s 1 = n) (h : gvI M s 1 M1 ρ t) : Rnk M s n (mkd M1 s) ρ (pl M s) := by
  intro k hk hA h3
  have hkI : (k : Int) < mI M s 1 := by omega
  obtain ⟨a1, a2, a3⟩ := h.2.2 k hkI
  have hA' : mI M1 (s + 36) k ≠ 0 := hA
  obtain ⟨-, c⟩ := a3 (by omega)
  rcases c with c | ⟨c1, i, c2, c3, c4⟩ | ⟨c1, c2, c3⟩
  · exact absurd c h3
  · left
    have e : mI M (s + 35) k = i := by
      rcases c3 with w | w
      · rcases w.1 with w | w
        · exact absurd c1 w
        · omega
      · exact w.2
    have ep : pl M s k = i := by unfold pl; omega
    rw [ep]
    exact ⟨c1, c2, (leadQ_LD hG hkI c2).1 c4⟩
  · right
    exact ⟨c1, c2, fun i hi hm => (leadQ_LD hG hkI hi).1 (c3 i hi (Or.inl ⟨Or.inl (by omega), hm⟩))⟩
theorem gv_fix (hG : GW M s) (hn : mI M s 1 = n) (hP : PLo M s) (h : gvQ M s 1 M1) : Fix M s n (mkd M1 s) (pl M s) := by
  obtain ⟨⟨ρ, t, h1⟩, h2⟩ := h
  refine ⟨fun k hk h3 => ?_, fun k hk hA => ⟨fun c1 hp hl => ?_, fun c1 hp => ?_⟩⟩
  · have a := (h1.2.2 k (by omega)).2.1 h3
    show mI M1 (s + 36) k ≠ 0
    omega
  · have hkI : (k : Int) < mI M s 1 := by omega
    have h0 : mI M1 (s + 36) k = 0 := Classical.byContradiction (fun w => hA w)
    have pk := hP k hkI (by omega)
    exact h2 k hkI h0 (Or.inl ⟨c1, pl M s k, hp, Or.inr ⟨fun w => by omega, by unfold pl; omega⟩, (leadQ_LD hG hkI hp).2 hl⟩)
  · have hkI : (k : Int) < mI M s 1 := by omega
    have h0 : mI M1 (s + 36) k = 0 := Classical.byContradiction (fun w => hA w)
    refine Classical.byContradiction (fun w => ?_)
    refine h2 k hkI h0 (Or.inr ⟨c1, hp, fun i hi hu => ?_⟩)
    have hm : mayP M s k i := by
      rcases hu with u | u
      · exact u.2
      · exact absurd (Or.inl (by omega)) u.1
    exact (leadQ_LD hG hkI hi).2 (Classical.byContradiction (fun w2 => w ⟨i, hi, hm, w2⟩))
/-- whoever comes to the end so, is seen by look -/
theorem ins_sub {A : Nat → Prop} {τ : Nat → Int} (hG : GW M s) (hn : mI M s 1 = n) (hP : PLo M s) (hR : Rnk M s n A ρ (pl M s)) (h3 : ∀ k, k < n → mI M (s + 22) k = 3 → τ k ≠ 0) (hτ : ∀ k, k < n → τ k = 0 → (mI M (s + 22) k = 1 → ∀ i : Nat, (i : Int) < mny M s k → mayP M s k i → ¬ LD M s k i (fun t => τ t ≠ 0)) ∧ (mI M (s + 22) k = 2 → 0 < mny M s k → ∃ i : Nat, (i : Int) < mny M s k ∧ mayP M s k i ∧ ¬ LD M s k i (fun t => τ t ≠ 0))) : ∀ k, k < n → A k → τ k ≠ 0 := by
  suffices H : ∀ r k, ρ k = r → k < n → A k → τ k ≠ 0 from fun k => H (ρ k) k rfl
  intro r
  induction r using Nat.strongRecOn with
  | ind r ih =>
    intro k er hk hA h0
    have hkI : (k : Int) < mI M s 1 := by omega
    have hK : mI M (s + 22) k ≠ 3 := fun w => h3 k hk w h0
    have key : ∀ t : Nat, (t : Int) < mI M s 1 → (A t ∧ ρ t < ρ k) → τ t ≠ 0 := fun t ht w => ih (ρ t) (by omega) t rfl (by omega) w.1
    rcases hR k hk hA hK with ⟨c1, c2, c3⟩ | ⟨c1, c2, c3⟩
    · exact (hτ k hk h0).1 c1 (pl M s k) c2 (hP k hkI (by omega)).2.2 (c3.mono hG hkI c2 key)
    · obtain ⟨i, i1, i2, i3⟩ := (hτ k hk h0).2 c1 c2
      exact i3 ((c3 i i1 i2).mono hG hkI i1 key)
end RK
/-- the unknown states up to i have their rows -/
abbrev nS (s : Nat) : Nat → Prop := fun x => x = s ∨ x = s + 39 ∨ x = s + 40
def EnI (M : mM) (s i c : Nat) (M2 : mM) : Prop := (mOk M2 ∧ FI (nS s) M M2 ∧ (∀ j, j ≠ 24 → mI M2 s j = mI M s j) ∧ mI M2 s 24 = c) ∧ (∀ r, r < c → 0 ≤ mI M2 (s + 39) r ∧ mI M2 (s + 39) r < i ∧ unk M s (mI M2 (s + 39) r).toNat ∧ mI M2 (s + 40) (mI M2 (s + 39) r).toNat = r)
  ∧ (∀ k, k < i → unk M s k → 0 ≤ mI M2 (s + 40) k ∧ mI M2 (s + 40) k < c ∧ mI M2 (s + 39) (mI M2 (s + 40) k).toNat = k) ∧ ∀ f : Nat → Int, sm (fun r => f (mI M2 (s + 39) r).toNat) c = sm (fun k => if unk M s k then f k else 0) i
section VS
variable {G : mG} {d s n : Nat} {M : mM}
theorem en_step {i c : Nat} {M2 M5 : mM} (h : EnI M s i c M2) (hu : unk M s i) (o5 : mOk M5) (f5 : FI (nS s) M2 M5) (h5 : ∀ j, j ≠ 24 → mI M5 s j = mI M2 s j) (h24 : mI M5 s 24 = (c : Int) + 1) (h39 : ∀ r, mI M5 (s + 39) r = if r = c then (i : Int) else mI M2 (s + 39) r) (h40 : ∀ k, mI M5 (s + 40) k = if k = i then (c : Int) else mI M2 (s + 40) k) : EnI M s (i + 1) (c + 1) M5 := by
  obtain ⟨⟨a1, a2, a3, a4⟩, a5, a6, a7⟩ := h
  refine ⟨⟨o5, a2.trans f5, fun j hj => (h5 j hj).trans (a3 j hj), by omega⟩, fun r hr => ?_, fun k hk hk2 => ?_, fun f => ?_⟩
  · rw [h39]
    by_cases q : r = c
    · rw [if_pos q, Int.toNat_natCast, h40, if_pos rfl]
      exact ⟨by omega, by omega, hu, by omega⟩
    · rw [if_neg q]
      obtain ⟨b1, b2, b3, b4⟩ := a5 r (by omega)
      rw [h40, if_neg (by omega)]
      exact ⟨b1, by omega, b3, b4⟩
  · rw [h40]
    by_cases q : k = i
    · rw [if_pos q, Int.toNat_natCast, h39, if_pos rfl]
      omega
    · rw [if_neg q]
      obtain ⟨b1, b2, b3⟩ := a6 k (by omega) hk2
      rw [h39, if_neg (by omega)]
      exact ⟨b1, by omega, b3⟩
  · rw [sm, sm, if_pos hu, ← a7 f, h39, if_pos rfl, Int.toNat_natCast]
    rw [sm_congr (g := fun r => f (mI M2 (s + 39) r).toNat) c (fun r hr => by rw [h39, if_neg (by omega)])]
theorem s_an12 {Q : mM → Prop} (hV : Vk M s) (hn : mI M s 1 = n) (hn5 : n ≤ 512) (h40 : sm (fun k => if unk M s k then 1 else 0) n ≤ 40) (hQ : ∀ m M', m ≤ 40 → EnI M s n m M' → h_MS_answer_77 G d s 1 M' Q) :
    ∀ (t i c : Nat) (M2 : mM), i + t = n → EnI M s i c M2 → h_MS_answer_12 G d s i M2 Q := by
  have hcnt : ∀ i c (M2 : mM), EnI M s i c M2 → i ≤ n → (c : Int) = sm (fun k => if unk M s k then 1 else 0) i ∧ (c : Int) ≤ 40 := fun i c M2 h hi => by
    have e := h.2.2.2 (fun _ => 1)
    have e1 : ∀ c : Nat, sm (fun _ => (1 : Int)) c = c := fun c => by
      induction c with
      | zero => rfl
      | succ c ih => rw [sm, ih]; omega
    have e2 : sm (fun r => (fun _ => (1 : Int)) (mI M2 (s + 39) r).toNat) c = c := e1 c
    rw [e2] at e
    have p := sm_part (f := fun k => if unk M s k then (1 : Int) else 0) (a := i) (n - i) (fun k _ => by show (0 : Int) ≤ if unk M s k then 1 else 0; split <;> omega)
    rw [show i + (n - i) = n by omega] at p
    exact ⟨e, by omega⟩
  intro t
  induction t with
  | zero =>
    intro i c M2 hi h
    have ei : i = n := by omega
    subst ei
    have hc := hcnt i c M2 h (by omega)
    obtain ⟨a1, a2, a3, a4⟩ := h.1
    refine k_MS_answer_12 a1 ⟨by omega, by omega⟩ ?_
    rw [a3 1 (by omega), hn]
    exact ⟨(hV.fi a2).k0, fun _ => hQ c M2 (by omega) h, fun w => by omega⟩
  | succ t ih =>
    intro i c M2 hi h
    have hc := hcnt i c M2 h (by omega)
    obtain ⟨a1, a2, a3, a4⟩ := h.1
    have V2 := hV.fi a2
    have fe := a2.2.2.2.2.2.2
    refine k_MS_answer_12 a1 ⟨by omega, by omega⟩ ?_
    rw [a3 1 (by omega), hn, V2.r19, V2.r4, V2.r22, V2.n36, V2.n22, V2.n39, fe (s + 36) (by omega), fe (s + 22) (by omega), a4, Int.toNat_natCast, Int.toNat_natCast]
    refine ⟨V2.k0, fun w => by omega, fun _ => ⟨V2.k36, by omega, fun _ => ⟨V2.k22, by omega⟩, fun w => ?_, fun w => ?_⟩⟩
    · have hnu : ¬ unk M s i := fun u => by rcases w with w | w; exact u.1 w; exact u.2 w
      refine ih (i + 1) c M2 (by omega) ⟨h.1, fun r hr => ?_, fun k hk hu => ?_, fun f => ?_⟩
      · obtain ⟨b1, b2, b3⟩ := h.2.1 r hr
        exact ⟨b1, by omega, b3⟩
      · have : k ≠ i := fun z => hnu (by rw [← z]; exact hu)
        exact h.2.2.1 k (by omega) hu
      · rw [h.2.2.2 f, sm, if_neg hnu]
        omega
    · have hu : unk M s i := ⟨fun z => w (Or.inl z), fun z => w (Or.inr z)⟩
      have hc1 := hcnt i c M2 h (by omega)
      have hlt : (c : Int) < 40 := by
        have p := sm_part (f := fun k => if unk M s k then (1 : Int) else 0) (a := i + 1) (n - (i + 1)) (fun k _ => by show (0 : Int) ≤ if unk M s k then 1 else 0; split <;> omega)
        rw [show i + 1 + (n - (i + 1)) = n by omega, sm, if_pos hu] at p
        omega
      refine ⟨V2.k39, by omega, fun M3 e3 => ?_⟩
      have f3 : FI (nS s) M2 M3 := by rw [e3]; exact FI.ui (Or.inr (Or.inl rfl))
      have V3 := V2.fi f3
      have s3 : mI M3 s = mI M2 s := by rw [e3]; funext j; rw [mI_UI, if_neg (by omega)]
      rw [V3.r23, V3.n40, s3, a4]
      refine ⟨V3.k40, by omega, fun M4 e4 => ?_⟩
      have f4 : FI (nS s) M3 M4 := by rw [e4]; exact FI.ui (Or.inr (Or.inr rfl))
      have s4 : mI M4 s = mI M2 s := by rw [e4]; funext j; rw [mI_UI, if_neg (by omega), s3]
      rw [s4, a4]
      refine ⟨⟨by omega, by omega⟩, fun M5 e5 => ?_⟩
      have f5 : FI (nS s) M4 M5 := by rw [e5]; exact FI.ui (Or.inl rfl)
      have o5 : mOk M5 := by
        rw [e5]
        refine mOk_UI ?_ ⟨by omega, by omega⟩
        rw [e4]
        refine mOk_UI ?_ ⟨by omega, by omega⟩
        rw [e3]
        exact mOk_UI a1 ⟨by omega, by omega⟩
      refine ih (i + 1) (c + 1) M5 (by omega) (en_step h hu o5 ((f3.trans f4).trans f5) (fun j hj => ?_) ?_ (fun r => ?_) (fun k => ?_))
      · rw [e5, mI_UI, if_neg (fun w => hj w.2), s4]
      · rw [e5, mI_UI, if_pos ⟨rfl, rfl⟩]
      · rw [e5, mI_UI, if_neg (by omega), e4, mI_UI, if_neg (by omega), e3, mI_UI]
        by_cases q : r = c
        · rw [if_pos ⟨rfl, q⟩, if_pos q]
        · rw [if_neg (fun w => q w.2), if_neg q]
      · rw [e5, mI_UI, if_neg (by omega), e4, mI_UI]
        by_cases q : k = i
        · rw [if_pos ⟨rfl, q⟩, if_pos q]
        · rw [if_neg (fun w => q w.2), if_neg q, e3, mI_UI, if_neg (by omega)]
end VS
end
section
/-! The solver: min's best answer. -/
theorem smp_sml {x : Rat} (h : Smp 21 x) : Sml x := by
  obtain ⟨E, z, h0, h1, h2⟩ := h
  exact ⟨E, z, h0, Int.lt_of_lt_of_le h1 (pow_mono (by omega)), h2⟩
theorem smp_b {x : Rat} {k : Nat} (h : Smp k x) : x ≤ 1 ∧ -1 ≤ x := by
  obtain ⟨E, z, -, -, -, h1, h2⟩ := h
  exact ⟨h1, h2⟩
theorem smp_one : Smp 21 1 := ⟨1, 1, by omega, by decide, by grind, by grind, by grind⟩
theorem smp_zero : Smp 21 0 := ⟨1, 0, by omega, by decide, by grind, by grind, by grind⟩
theorem Sy.val {m i : Nat} {p : Nat → Nat → Rat} {N : Nat → Nat → Int} {D : Nat → Int} (h : Sy m p N D) (hi : i < m) : Smp 21 (gq p m i m) := by
  have a := h.q01 hi (k := m) (j := m) (by omega) (by omega)
  obtain ⟨⟨h', g⟩, hp, hD, hE⟩ := h
  obtain ⟨z, hz⟩ := gq_int g hp (k := m) (j := m) (by omega) (by omega) hi
  exact ⟨_, z, det_pos g hp hD m (by omega), (hE i m hi (by omega)).2, hz, a.2, by grind⟩
section MS
variable {n : Nat} {x x' : Nat → Rat} {F : Int}
theorem ms_ex (hF : Fall F) : ∀ (n : Nat), (∀ k, k < n → Smp 21 (x k) ∧ 0 ≤ x k) → ∃ t : Nat, sr x n * (F : Rat) = ((t : Int) : Rat)
  | 0, _ => ⟨0, by show (0 : Rat) * (F : Rat) = 0; grind⟩
  | n + 1, h => by
    obtain ⟨t, ht⟩ := ms_ex hF n (fun k hk => h k (by omega))
    obtain ⟨z, hz⟩ := hF.int (smp_sml (h n (by omega)).1)
    have h0 : (0 : Rat) ≤ (z : Rat) := by
      rw [← hz]
      exact Rat.mul_nonneg (h n (by omega)).2 (Rat.le_of_lt (Rat.intCast_pos.2 hF.1))
    have hz0 : 0 ≤ z := ic_le (by have : ((0 : Int) : Rat) = 0 := rfl; rw [this]; exact h0)
    refine ⟨t + z.toNat, ?_⟩
    rw [sr, show ((t + z.toNat : Nat) : Int) = (t : Int) + z by omega, Rat.intCast_add, ← ht, ← hz]
    grind
theorem ms_lt (hF : Fall F) {t t' : Nat} (h : sr x n * (F : Rat) = ((t : Int) : Rat)) (h' : sr x' n * (F : Rat) = ((t' : Int) : Rat)) (hl : sr x' n < sr x n) : t' < t := by
  have p : (0 : Rat) < (F : Rat) := Rat.intCast_pos.2 hF.1
  have a := Rat.mul_pos (a := sr x n - sr x' n) (b := (F : Rat)) (by grind) p
  have b : ((t' : Int) : Rat) < ((t : Int) : Rat) := by
    rw [← h, ← h']
    grind
  have := ic_lt.1 b
  omega
end MS
abbrev aS (s : Nat) : Nat → Prop := fun x => x = s ∨ (s + 2 ≤ x ∧ x ≤ s + 21) ∨ (s + 35 ≤ x ∧ x ≤ s + 36) ∨ (s + 39 ≤ x ∧ x ≤ s + 40) ∨ (s + 42 ≤ x ∧ x ≤ s + 61) ∨ eS s 88 x ∨ (s + 12868 ≤ x ∧ x ≤ s + 21067)
abbrev bS (s : Nat) : Nat → Prop := fun x => (s + 2 ≤ x ∧ x ≤ s + 21) ∨ x = s + 35 ∨ (s + 42 ≤ x ∧ x ≤ s + 61) ∨ eS s 88 x ∨ (s + 12868 ≤ x ∧ x ≤ s + 21067)
/-- the values that the choices σ give -/
def VL (M : mM) (s n : Nat) (A : Nat → Prop) (σ : Nat → Nat) (x : Nat → Rat) : Prop := (∀ k, k < n → Smp 21 (x k) ∧ 0 ≤ x k) ∧ (∀ k, k < n → mI M (s + 22) k = 3 → x k = 1) ∧ (∀ k, k < n → ¬ A k → mI M (s + 22) k ≠ 3 → x k = 0) ∧ (∀ k, k < n → A k → mI M (s + 22) k ≠ 3 → x k = cw M s (cx M s k (σ k)) x)
  ∧ (∀ z : Nat → Rat, (∀ k, k < n → A k → mI M (s + 22) k ≠ 3 → z k ≤ cw M s (cx M s k (σ k)) z) → (∀ k, k < n → ¬ (A k ∧ mI M (s + 22) k ≠ 3) → z k ≤ x k) → ∀ k, k < n → z k ≤ x k)
  ∧ (∀ z : Nat → Rat, (∀ k, k < n → A k → mI M (s + 22) k ≠ 3 → cw M s (cx M s k (σ k)) z ≤ z k) → (∀ k, k < n → ¬ (A k ∧ mI M (s + 22) k ≠ 3) → x k ≤ z k) → ∀ k, k < n → x k ≤ z k)
/-- the values that max's choices σ give against min's best -/
def Res (M : mM) (s n : Nat) (A : Nat → Prop) (ρ σ : Nat → Nat) (x : Nat → Rat) : Prop := (∀ k, k < n → Smp 21 (x k) ∧ 0 ≤ x k) ∧ (∀ k, k < n → mI M (s + 22) k = 3 → x k = 1) ∧ (∀ k, k < n → ¬ A k → mI M (s + 22) k ≠ 3 → x k = 0) ∧ (∀ k, k < n → A k → mI M (s + 22) k = 1 → x k = cw M s (cx M s k (σ k)) x) ∧ (∀ k, k < n → A k → mI M (s + 22) k = 2 → ∀ i : Nat, (i : Int) < mny M s k → mayP M s k i → x k ≤ cw M s (cx M s k i) x)
  ∧ Rnk M s n A ρ σ ∧ Fix M s n A σ
  ∧ (∀ z : Nat → Rat, (∀ k, k < n → A k → mI M (s + 22) k = 1 → z k ≤ cw M s (cx M s k (σ k)) z) → (∀ k, k < n → A k → mI M (s + 22) k = 2 → ∀ i : Nat, (i : Int) < mny M s k → mayP M s k i → z k ≤ cw M s (cx M s k i) z) → (∀ k, k < n → ¬ A k → z k ≤ 0) → (∀ k, k < n → mI M (s + 22) k = 3 → z k ≤ 1) → ∀ k, k < n → z k ≤ x k)
/-- what stands while min's choices are bettered -/
def AC (M : mM) (s n m : Nat) (ρ : Nat → Nat) (M3 : mM) : Prop := GW M s ∧ GB M s ∧ mI M s 1 = n ∧ m ≤ 40 ∧ LQ M s n ∧ Rnk M s n (mkd M3 s) ρ (pl M s) ∧ Fix M s n (mkd M3 s) (pl M s) ∧ PLo M s ∧ sameW M M3 s ∧ mI M3 s 24 = m ∧ (∀ r, r < m → 0 ≤ mI M3 (s + 39) r ∧ mI M3 (s + 39) r < n ∧ unk M3 s (uu M3 s r) ∧ mI M3 (s + 40) (uu M3 s r) = r) ∧ (∀ k, k < n → unk M3 s k → 0 ≤ mI M3 (s + 40) k ∧ mI M3 (s + 40) k < m ∧ mI M3 (s + 39) (mI M3 (s + 40) k).toNat = k) ∧ ∀ f : Nat → Int, sm (fun r => f (uu M3 s r)) m = sm (fun k => if unk M3 s k then f k else 0) n
def AH (M : mM) (s : Nat) (M3 M2 : mM) : Prop := mOk M2 ∧ Vk M2 s ∧ FI (bS s) M3 M2 ∧ Wk M2 s ∧ Ct M2 s ∧ Rm M2 s 88 ∧ PLo M2 s ∧ ∀ k, mI M (s + 22) k ≠ 2 → mI M2 (s + 35) k = mI M (s + 35) k
section AN
variable {M M3 M2 : mM} {s n m : Nat} {ρ : Nat → Nat}
theorem AH.sw (hA : AC M s n m ρ M3) (h : AH M s M3 M2) : sameW M M2 s :=
  hA.2.2.2.2.2.2.2.2.1.trans (sameW.of h.2.2.1 (by omega) (fun x _ _ => by omega) (by omega))
theorem AH.sy (hA : AC M s n m ρ M3) (h : AH M s M3 M2) : Enu M2 s m ∧ Sy m (rowp M2 s m) (rowN M2 s m) (rowD M2 s) := by
  have hw := AH.sw hA h
  obtain ⟨hG, hC, hn, hm, hL, hR, hF, hP, -, h24, e1, e2, e3⟩ := hA
  obtain ⟨o2, V2, f2, W2, T2, R2, P2, h2⟩ := h
  have fe := f2.2.2.2.2.2.2
  have i36 : mI M2 (s + 36) = mI M3 (s + 36) := fe _ (by omega)
  have i39 : mI M2 (s + 39) = mI M3 (s + 39) := fe _ (by omega)
  have i40 : mI M2 (s + 40) = mI M3 (s + 40) := fe _ (by omega)
  have i22 : mI M2 (s + 22) = mI M3 (s + 22) := fe _ (by omega)
  have i22' : mI M2 (s + 22) = mI M (s + 22) := hw.1.2.2.2 _ (by omega) (by omega)
  have hu : ∀ k, unk M2 s k ↔ unk M3 s k := fun k => by unfold unk; rw [i36, i22]
  have huu : uu M2 s = uu M3 s := by funext r; unfold uu; rw [i39]
  have hG2 := hw.1.gw hG
  have hC2 := hw.1.gb hC
  have hn2 : mI M2 s 1 = n := by rw [hw.1.1]; exact hn
  have hcmd : ∀ k, k < n → unk M3 s k → (mI M (s + 22) k = 1 ∨ mI M (s + 22) k = 2) ∧ 0 < mny M s k := fun k hk hk2 => by
    rcases hR k hk hk2.1 (by rw [← i22', i22]; exact hk2.2) with ⟨c1, c2, -⟩ | ⟨c1, c2, -⟩
    · exact ⟨Or.inl c1, by omega⟩
    · exact ⟨Or.inr c1, c2⟩
  have hE : Enu M2 s m := by
    refine ⟨fun r hr => ?_, fun k hk hk2 => ?_, fun r hr => ?_, fun k hk h3 => ?_⟩
    · obtain ⟨a1, a2, a3, a4⟩ := e1 r hr
      rw [huu, i39, i40, hn2]
      exact ⟨a1, a2, (hu _).2 a3, a4⟩
    · rw [i40, i39]
      exact e2 k (by omega) ((hu k).1 hk2)
    · obtain ⟨a1, a2, a3, a4⟩ := e1 r hr
      rw [huu]
      have hk : uu M3 s r < n := by unfold uu; omega
      have a := hcmd _ hk a3
      have b := P2 (uu M3 s r) (by omega) (by rw [hw.1.hm]; exact a.2)
      exact ⟨b.1, b.2.1⟩
    · rw [i36]
      exact hF.1 k (by omega) (by rw [← i22']; exact h3)
  obtain ⟨τ, w, l1, l2, l3, l4, l5, l6⟩ := hL
  have hsub := ins_sub hG hn hP hR l1 l2
  have hrow : ∀ r, r < m → uu M2 s r < n ∧ mkd M3 s (uu M2 s r) ∧ mI M (s + 22) (uu M2 s r) ≠ 3 ∧ (pl M2 s (uu M2 s r) : Int) < mny M s (uu M2 s r) ∧ mayP M s (uu M2 s r) (pl M2 s (uu M2 s r)) ∧ LD M s (uu M2 s r) (pl M2 s (uu M2 s r)) (fun t => mkd M3 s t ∧ ρ t < ρ (uu M2 s r)) := fun r hr => by
    obtain ⟨c1, c2, c3, c4⟩ := hE.cmd hG2 hr
    have hk : uu M2 s r < n := by omega
    have hk2 := (hu _).1 (hE.1 r hr).2.2.1
    have h3 : mI M (s + 22) (uu M2 s r) ≠ 3 := by rw [← i22', i22]; exact hk2.2
    rw [hw.1.hm] at c3
    have hmy := (P2 _ c1 (by rw [hw.1.hm]; omega)).2.2
    rw [hw.may] at hmy
    refine ⟨hk, hk2.1, h3, c3, hmy, ?_⟩
    rcases hR _ hk hk2.1 h3 with ⟨d1, d2, d3⟩ | ⟨d1, d2, d3⟩
    · have e : pl M2 s (uu M2 s r) = pl M s (uu M2 s r) := by unfold pl; rw [h2 _ (by omega)]
      rw [e]
      exact d3
    · exact d3 _ c3 hmy
  refine ⟨hE, rowp_sy (ρ := ρ) (w := fun r => w (uu M2 s r)) hE hG2 hC2 (fun r hr => ?_) (fun r hr => ?_) ?_⟩
  · obtain ⟨b, b1, b2, b3⟩ := (hrow r hr).2.2.2.2.2
    have e : rwc M2 s r = cx M s (uu M2 s r) (pl M2 s (uu M2 s r)) := by unfold rwc; rw [hw.1.hx]
    rw [e, hw.1.hn, hw.1.ht, hw.1.hb, i36]
    exact ⟨b, b1, b2, b3⟩
  · obtain ⟨g1, g2, g3, g4, g5, -⟩ := hrow r hr
    have a := l3 _ g1 (hsub _ g1 g2) g3
    refine ⟨a.1, ?_⟩
    have e : rowD M2 s r = mI M (s + 24) (cx M s (uu M2 s r) (pl M2 s (uu M2 s r))) := by unfold rowD rwc; rw [hw.1.hx, hw.1.2.2.2 (s + 24) (by omega) (by omega)]
    rw [e]
    exact a.2 _ g4 g5
  · rw [huu, e3 w]
    refine Int.le_trans (sm_le n (fun k hk => ?_)) l5
    have := l4 k hk
    split <;> omega
theorem AH.vl (hA : AC M s n m ρ M3) (h : AH M s M3 M2) : VL M s n (mkd M3 s) (pl M2 s) (valx M2 s m) := by
  have hw := AH.sw hA h
  obtain ⟨hE, hS⟩ := AH.sy hA h
  obtain ⟨hG, hC, hn, hm, -⟩ := hA
  have f2 := h.2.2.1
  have fe := f2.2.2.2.2.2.2
  have i36 : mI M2 (s + 36) = mI M3 (s + 36) := fe _ (by omega)
  have i22 : mI M2 (s + 22) = mI M (s + 22) := hw.1.2.2.2 _ (by omega) (by omega)
  have hG2 := hw.1.gw hG
  have hC2 := hw.1.gb hC
  have hn2 : mI M2 s 1 = n := by rw [hw.1.1]; exact hn
  have hu : ∀ k, unk M2 s k ↔ (mkd M3 s k ∧ mI M (s + 22) k ≠ 3) := fun k => by unfold unk; rw [i36, i22]
  refine ⟨fun k hk => ⟨?_, (valx_01 hE hS (by omega)).1⟩, fun k hk h3 => ?_, fun k hk hnA h3 => ?_, fun k hk hAk h3 => ?_, fun z h1 h2 k hk => ?_, fun z h1 h2 k hk => ?_⟩
  · by_cases q : mI M2 (s + 36) k ≠ 0 ∧ mI M2 (s + 22) k ≠ 3
    · rw [valx_y q]
      obtain ⟨r1, r2, r3⟩ := hE.2.1 k (by omega) q
      exact hS.val (by omega)
    · rw [valx_n q]
      split
      · exact smp_one
      · exact smp_zero
  · rw [valx_n (fun w => w.2 (by rw [i22]; exact h3)), i22, if_pos h3]
  · rw [valx_n (fun w => hnA (by have := w.1; rw [i36] at this; exact this)), i22, if_neg h3]
  · have e := valx_eq hE hG2 hS (k := k) (by omega) ((hu k).2 ⟨hAk, h3⟩)
    rw [hw.1.hw, hw.1.hx] at e
    exact e
  · refine sub_le hE hG2 hC2 hS (x := z) (fun j hj hj2 => ?_) (fun j hj hj2 => ?_) k (by omega)
    · have a := (hu j).1 hj2
      rw [hw.1.hw, hw.1.hx]
      exact h1 j (by omega) a.1 a.2
    · exact h2 j (by omega) (fun w => hj2 ((hu j).2 w))
  · refine sup_ge hE hG2 hC2 hS (x := z) (fun j hj hj2 => ?_) (fun j hj hj2 => ?_) k (by omega)
    · have a := (hu j).1 hj2
      rw [hw.1.hw, hw.1.hx]
      exact h1 j (by omega) a.1 a.2
    · exact h2 j (by omega) (fun w => hj2 ((hu j).2 w))
end AN
end
section
/-! The solver: answer. -/
def anQ (M : mM) (s n : Nat) (M' : mM) : Prop := mOk M' ∧ FI (aS s) M M' ∧ (∀ j, j ≠ 24 → mI M' s j = mI M s j) ∧ Wk M' s ∧ Ct M' s ∧ Rm M' s 88 ∧ PLo M' s ∧ (∀ k, mI M (s + 22) k ≠ 2 → mI M' (s + 35) k = mI M (s + 35) k) ∧ ∃ (A : Nat → Prop) (ρ : Nat → Nat) (x : Nat → Rat), Xt M' s 88 n x ∧ Res M s n A ρ (pl M s) x
theorem PLo.out {M M' : mM} {s : Nat} (h : PLo M s) (w : sameW M M' s) (e : mI M' (s + 35) = mI M (s + 35)) : PLo M' s := by
  unfold PLo pl at h ⊢
  rw [w.1.hm, w.may, w.1.1, e]
  exact h
section AN
variable {G : mG} {d s n m : Nat} {M M3 : mM} {ρ : Nat → Nat} {F : Int}
theorem an_settle {M5 : mM} {Q : mM → Prop} (hA : AC M s n m ρ M3) (h : AH M s M3 M5) (hQ : ∀ M6 x, AH M s M3 M6 → Xt M6 s 88 n x → VL M s n (mkd M3 s) (pl M6 s) x → pl M6 s = pl M5 s → h_MS_answer_89 G (d + 7) s 0 0 M6 Q) : h_MS_answer_77 G (d + 7) s 1 M5 Q := by
  have hw := AH.sw hA h
  have hv := AH.vl hA h
  obtain ⟨hE, hS⟩ := AH.sy hA h
  obtain ⟨hG, hC, hn, hm, -, -, -, -, -, h24, -⟩ := hA
  obtain ⟨o2, V2, f2, W2, T2, R2, P2, h2⟩ := h
  have hG2 := hw.1.gw hG
  have hn2 : mI M5 s 1 = n := by rw [hw.1.1]; exact hn
  have h24' : mI M5 s 24 = m := by rw [f2.2.2.2.2.2.2 s (by omega)]; exact h24
  refine k_MS_answer_77 o2 ⟨by omega, by omega⟩ ⟨fun w => by omega, fun _ => ⟨V2.k0, (s_MS_settle (d := d) hm o2 V2 hG2 (hw.1.gb hC) hn2 h24' hE hS W2 T2 R2).mono (fun M6 h6 => ?_)⟩⟩
  obtain ⟨o6, f6, W6, T6, R6, X6⟩ := h6
  have e35 : mI M6 (s + 35) = mI M5 (s + 35) := f6.2.2.2.2.2.2 _ (by omega)
  have ep : pl M6 s = pl M5 s := by funext k; unfold pl; rw [e35]
  refine ⟨o6, hQ M6 _ ⟨o6, V2.fi f6, f2.trans (f6.mono (fun y q => by omega)), W6, T6, R6, P2.out (sameW.of f6 (by omega) (fun x _ _ => by omega) (by omega)) e35, fun k hk => by rw [e35]; exact h2 k hk⟩ X6 (by rw [ep]; exact hv) ep⟩
theorem s_an89 {Q : mM → Prop} (hF : Fall F) (hA : AC M s n m ρ M3) (hQ : ∀ M' x, AH M s M3 M' → Xt M' s 88 n x → Res M s n (mkd M3 s) ρ (pl M s) x → Q M') : ∀ (t : Nat) (x : Nat → Rat) (M2 : mM), AH M s M3 M2 → Xt M2 s 88 n x → VL M s n (mkd M3 s) (pl M2 s) x → sr x n * (F : Rat) = ((t : Int) : Rat) → h_MS_answer_89 G (d + 7) s 0 0 M2 Q := by
  have hAC := hA
  obtain ⟨hG, hC, hn, hm, hL, hR, hFx, hP, hw3, h24, e1, e2, e3⟩ := hA
  have hn5 := hG.2.1
  have i22 : mI M3 (s + 22) = mI M (s + 22) := hw3.1.2.2.2 _ (by omega) (by omega)
  intro t
  induction t using Nat.strongRecOn with
  | ind t ih =>
    intro x M2 h2 X2 v2 ht
    have h01 : ∀ t, t < n → 0 ≤ x t ∧ x t ≤ 1 := fun t ht => ⟨(v2.1 t ht).2, (smp_b (v2.1 t ht).1).1⟩
    suffices H : ∀ (c r : Nat) (f : Int) (M5 : mM), r + c = m → AH M s M3 M5 → Xt M5 s 88 n x → ((f = 0 ∧ mI M5 (s + 35) = mI M2 (s + 35) ∧ ∀ r', r' < r → mI M (s + 22) (uu M3 s r') = 2 → ∀ i : Nat, (i : Int) < mny M s (uu M3 s r') → mayP M s (uu M3 s r') i → ¬ cw M s (cx M s (uu M3 s r') i) x < x (uu M3 s r')) ∨ (f = 1 ∧ (∀ k, k < n → mkd M3 s k → mI M (s + 22) k ≠ 3 → cw M s (cx M s k (pl M5 s k)) x ≤ x k) ∧ ∃ k, k < n ∧ mkd M3 s k ∧ mI M (s + 22) k ≠ 3 ∧ cw M s (cx M s k (pl M5 s k)) x < x k)) → h_MS_answer_89 G (d + 7) s f r M5 Q from
      H m 0 0 M2 (by omega) h2 X2 (Or.inl ⟨rfl, rfl, fun r' hr' => by omega⟩)
    intro c
    induction c with
    | zero =>
      intro r f M5 hr h5 X5 hf
      have er : r = m := by omega
      subst er
      have hf01 : f = 0 ∨ f = 1 := by rcases hf with q | q; exact Or.inl q.1; exact Or.inr q.1
      have e24 : mI M5 s 24 = r := by rw [h5.2.2.1.2.2.2.2.2.2 s (by omega)]; exact h24
      refine k_MS_answer_89 h5.1 ⟨by omega, by omega⟩ ⟨by omega, by omega⟩ ?_
      rw [e24]
      refine ⟨h5.2.1.k0, fun _ => ?_, fun w => by omega⟩
      rcases hf with ⟨q1, q2, q3⟩ | ⟨q1, q2, k, q3, q4, q5, q6⟩
      · subst q1
        refine k_MS_answer_77 h5.1 ⟨by omega, by omega⟩ ⟨fun _ => hQ M5 x h5 X5 ?_, fun w => absurd rfl w⟩
        obtain ⟨v1, v3, v4, v5, v6, -⟩ := v2
        have ep : pl M5 s = pl M2 s := by funext k; unfold pl; rw [q2]
        have hmax : ∀ k, mI M (s + 22) k = 1 → pl M2 s k = pl M s k := fun k hk => by unfold pl; rw [h2.2.2.2.2.2.2.2 k (by omega)]
        have hP2 : ∀ k, k < n → 0 < mny M s k → (pl M2 s k : Int) < mny M s k ∧ mayP M s k (pl M2 s k) := fun k hk hp => by
          have hw2 := AH.sw hAC h2
          have a := h2.2.2.2.2.2.2.1 k (by rw [hw2.1.1]; omega) (by rw [hw2.1.hm]; exact hp)
          rw [hw2.1.hm, hw2.may] at a
          exact ⟨by unfold pl; omega, a.2.2⟩
        refine ⟨v1, v3, v4, fun k hk hk2 hk1 => ?_, fun k hk hk2 hk1 i hi hmi => ?_, hR, hFx, fun z z1 z2 z3 z4 => v6 z (fun k hk hk2 hk3 => ?_) (fun k hk hk2 => ?_)⟩
        · rw [← hmax k hk1]
          exact v5 k hk hk2 (by omega)
        · obtain ⟨b1, b2, b3⟩ := e2 k hk ⟨hk2, by rw [i22]; omega⟩
          have euj : uu M3 s (mI M3 (s + 40) k).toNat = k := by unfold uu; omega
          have a := q3 (mI M3 (s + 40) k).toNat (by omega)
          rw [euj] at a
          have b := a hk1 i hi hmi
          grind
        · rcases hR k hk hk2 hk3 with ⟨c1, c2, -⟩ | ⟨c1, c2, -⟩
          · rw [hmax k c1]
            exact z1 k hk hk2 c1
          · have p := hP2 k hk c2
            exact z2 k hk hk2 c1 _ p.1 p.2
        · by_cases w3 : mI M (s + 22) k = 3
          · rw [v3 k hk w3]
            exact z4 k hk w3
          · have hnA : ¬ mkd M3 s k := fun w => hk2 ⟨w, w3⟩
            rw [v4 k hk hnA w3]
            exact z3 k hk hnA
      · subst q1
        refine an_settle hAC h5 (fun M6 x' h6 X6 v6 ep => ?_)
        obtain ⟨t', ht'⟩ := ms_ex hF n v6.1
        have hle : ∀ k, k < n → x' k ≤ x k := v6.2.2.2.2.2 x (fun j hj hj2 hj3 => by rw [ep]; exact q2 j hj hj2 hj3) (fun j hj hj2 => by
          by_cases w3 : mI M (s + 22) j = 3
          · rw [v6.2.1 j hj w3, v2.2.1 j hj w3]
            exact Rat.le_refl
          · have hnA : ¬ mkd M3 s j := fun w => hj2 ⟨w, w3⟩
            rw [v6.2.2.1 j hj hnA w3, v2.2.2.1 j hj hnA w3]
            exact Rat.le_refl)
        have hlt : x' k < x k := by
          have a := v6.2.2.2.1 k q3 q4 q5
          rw [ep] at a
          have hk5 := h5.2.2.2.2.2.2.1
          have hw5 := AH.sw hAC h5
          have hpos : 0 < mny M s k := by
            rcases hR k q3 q4 q5 with ⟨c1, c2, -⟩ | ⟨c1, c2, -⟩
            · omega
            · exact c2
          have p := hk5 k (by rw [hw5.1.1]; omega) (by rw [hw5.1.hm]; exact hpos)
          rw [hw5.1.hm] at p
          have hcx := cx_lt hG (k := k) (i := pl M5 s k) (by omega) (by unfold pl; omega)
          have b := cw_le hC hcx (f := x') (g := x) (fun b hb => hle _ (by have := tg_lt hG hcx hb; omega))
          grind
        have hs : sr x' n < sr x n := sr_lt n hle ⟨k, q3, hlt⟩
        exact ih t' (ms_lt hF ht ht' hs) x' M6 h6 X6 v6 ht'
    | succ c ihc =>
      intro r f M5 hr h5 X5 hf
      have hrm : r < m := by omega
      have hf01 : f = 0 ∨ f = 1 := by rcases hf with q | q; exact Or.inl q.1; exact Or.inr q.1
      have hw5 := AH.sw hAC h5
      obtain ⟨o5, V5, f5, W5, T5, R5, P5, k5⟩ := id h5
      have fe5 := f5.2.2.2.2.2.2
      have e24 : mI M5 s 24 = m := by rw [fe5 s (by omega)]; exact h24
      obtain ⟨a1, a2, a3, a4⟩ := e1 r hrm
      have huu : (uu M3 s r : Int) = mI M3 (s + 39) r := by unfold uu; omega
      refine k_MS_answer_89 o5 ⟨by omega, by omega⟩ ⟨by omega, by omega⟩ ?_
      rw [e24, V5.r22, V5.n39, fe5 (s + 39) (by omega), Int.toNat_natCast, ← huu]
      refine ⟨V5.k0, fun w => by omega, fun _ => ⟨V5.k39, by omega, (s_MS_improve (d := d + 1) (Or.inr rfl) o5 V5 (hw5.1.gw hG) (hw5.1.gb hC) (by rw [hw5.1.1]; exact hn) (by rw [hw5.1.1]; omega) W5 X5 h01).mono (fun y M6 h6 => ?_)⟩⟩
      obtain ⟨o6, W6, f6, hy⟩ := h6
      have w56 : sameW M5 M6 s := sameW.of f6 (by omega) (fun x _ _ => by omega) (by omega)
      have i22' : mI M5 (s + 22) = mI M (s + 22) := hw5.1.2.2.2 _ (by omega) (by omega)
      rw [i22', hw5.1.hm, hw5.may] at hy
      have hbet : ∀ k i, betP M5 s x 2 k i ↔ cw M s (cx M s k i) x < x k := fun k i => by
        unfold betP
        rw [if_neg (by omega), hw5.1.hw, hw5.1.hx]
      have hk : uu M3 s r < n := by omega
      have a3' : mI M (s + 22) (uu M3 s r) ≠ 3 := by rw [← i22]; exact a3.2
      rcases hy with ⟨y1, y2, y3⟩ | ⟨y1, y2, i, y3, y4, y5, y6⟩
      · subst y1
        have ep : pl M6 s = pl M5 s := by funext k; unfold pl; rw [y2]
        refine ⟨⟨by omega, by omega⟩, o6, fun v hv => ?_⟩
        have hvf : v = f := by split at hv <;> omega
        subst hvf
        refine ihc (r + 1) v M6 (by omega) ⟨o6, V5.fi f6, f5.trans (f6.mono (fun y q => by omega)), W6, T5.out f6 (fun y q => by omega), R5.out f6 (fun y q => by omega), P5.out w56 y2, fun k hk => by rw [y2]; exact k5 k hk⟩ (X5.out f6 (fun y q => by omega)) ?_
        rcases hf with ⟨q1, q2, q3⟩ | ⟨q1, q2, q3⟩
        · left
          refine ⟨q1, y2.trans q2, fun r' hr' c2 i hi hmi => ?_⟩
          by_cases z : r' = r
          · subst z
            exact fun w => y3 c2 i hi hmi ((hbet _ _).2 w)
          · exact q3 r' (by omega) c2 i hi hmi
        · right
          rw [ep]
          exact ⟨q1, q2, q3⟩
      · subst y1
        have hlt := (hbet _ _).1 y5
        have epl : ∀ k, pl M6 s k = if k = uu M3 s r then i else pl M5 s k := fun k => by
          unfold pl
          rw [y6]
          by_cases z : k = uu M3 s r
          · rw [if_pos z, if_pos z]; omega
          · rw [if_neg z, if_neg z]
        refine ⟨⟨by omega, by omega⟩, o6, fun v hv => ?_⟩
        have hv1 : v = 1 := by split at hv <;> omega
        subst hv1
        have P6 : PLo M6 s := by
          intro k hk1 hk2
          rw [w56.1.1] at hk1
          rw [w56.1.hm] at hk2 ⊢
          rw [w56.may, epl, y6]
          by_cases z : k = uu M3 s r
          · rw [if_pos z, if_pos z, z, hw5.1.hm, hw5.may]
            exact ⟨by omega, y3, y4⟩
          · rw [if_neg z, if_neg z]
            exact P5 k hk1 hk2
        refine ihc (r + 1) 1 M6 (by omega) ⟨o6, V5.fi f6, f5.trans (f6.mono (fun y q => by omega)), W6, T5.out f6 (fun y q => by omega), R5.out f6 (fun y q => by omega), P6, fun k hk => by
          rw [y6, if_neg (fun z => hk (by rw [z]; exact y2))]
          exact k5 k hk⟩ (X5.out f6 (fun y q => by omega)) (Or.inr ⟨rfl, fun k hk hk2 hk3 => ?_, uu M3 s r, hk, a3.1, a3', ?_⟩)
        · rw [epl]
          by_cases z : k = uu M3 s r
          · rw [if_pos z, z]
            grind
          · rw [if_neg z]
            rcases hf with ⟨q1, q2, q3⟩ | ⟨q1, q2, q3⟩
            · have ep : pl M5 s = pl M2 s := by funext k; unfold pl; rw [q2]
              rw [ep, ← v2.2.2.2.1 k hk hk2 hk3]
              exact Rat.le_refl
            · exact q2 k hk hk2 hk3
        · rw [epl, if_pos rfl]
          exact hlt
end AN
end
section
/-! The solver: answer, the whole. -/
section AN
variable {G : mG} {d s n : Nat} {M : mM} {F : Int}
theorem s_MS_answer (hF : Fall F) (hO : mOk M) (hV : Vk M s) (hG : GW M s) (hC : GB M s) (hn : mI M s 1 = n) (hW : Wk M s) (hT : Ct M s) (hR : Rm M s 88) (hP : PLo M s) (hL : LQ M s n) :
    Cv G y_MS_answer (d + 8) [vr s] M (anQ M s n) := by
  have h2 := hG.2.1
  refine k_MS_answer hO ⟨hV.k0, (s_MS_grow (d := d + 5) ⟨by omega, by omega⟩ hO hV hG).mono (fun M1 h1 => ?_)⟩
  have hfx := gv_fix hG hn hP h1
  obtain ⟨⟨ρ, t, g1⟩, -⟩ := h1
  have hrk := gv_rnk hG hn g1
  obtain ⟨o1, f1, -⟩ := g1
  have V1 := hV.fi f1
  have fe1 := f1.2.2.2.2.2.2
  refine ⟨o1, V1.k0, fun M2 e2 => ?_⟩
  have f2 : FI (fun x => x = s) M1 M2 := by rw [e2]; exact FI.ui rfl
  have fe2 := f2.2.2.2.2.2.2
  have o2 : mOk M2 := by rw [e2]; exact mOk_UI o1 ⟨by omega, by omega⟩
  have V2 := V1.fi f2
  have s2 : ∀ j, j ≠ 24 → mI M2 s j = mI M s j := fun j hj => by rw [e2, mI_UI, if_neg (fun w => hj w.2), fe1 s (by omega)]
  have s24 : mI M2 s 24 = 0 := by rw [e2, mI_UI, if_pos ⟨rfl, rfl⟩]
  have i36 : mI M2 (s + 36) = mI M1 (s + 36) := fe2 _ (by omega)
  have i22 : mI M2 (s + 22) = mI M (s + 22) := by rw [fe2 _ (by omega), fe1 _ (by omega)]
  have hn2 : mI M2 s 1 = n := by rw [s2 1 (by omega)]; exact hn
  have h40 : sm (fun k => if unk M2 s k then 1 else 0) n ≤ 40 := by
    obtain ⟨τ, w, l1, l2, l3, l4, l5, l6⟩ := hL
    have hsub := ins_sub hG hn hP hrk l1 l2
    refine Int.le_trans (sm_le n (fun k hk => ?_)) l6
    by_cases q : unk M2 s k
    · have q1 : mkd M1 s k := by have := q.1; rw [i36] at this; exact this
      have q2 : mI M (s + 22) k ≠ 3 := by have := q.2; rw [i22] at this; exact this
      rw [if_pos q, if_pos ⟨hsub k hk q1, q2⟩]
      omega
    · rw [if_neg q]
      split <;> omega
  refine s_an12 (G := G) (d := d + 7) V2 hn2 (by omega) h40 (fun m M3 hm h3 => ?_) n 0 0 M2 (by omega) ⟨⟨o2, FI.refl, fun j _ => rfl, s24⟩, fun r hr => by omega, fun k hk => by omega, fun f => rfl⟩
  obtain ⟨⟨o3, f3, s3, s34⟩, e1, e3, e4⟩ := h3
  have fe3 := f3.2.2.2.2.2.2
  have V3 := V2.fi f3
  have j36 : mI M3 (s + 36) = mI M1 (s + 36) := by rw [fe3 _ (by omega), i36]
  have j22 : mI M3 (s + 22) = mI M (s + 22) := by rw [fe3 _ (by omega), i22]
  have hmk : mkd M3 s = mkd M1 s := by funext k; unfold mkd; rw [j36]
  have hu : ∀ k, unk M2 s k ↔ unk M3 s k := fun k => by unfold unk; rw [j36, j22, i36, i22]
  have hfar : ∀ x, x ≠ s → x ≠ s + 36 → x ≠ s + 39 → x ≠ s + 40 → mI M3 x = mI M x := fun x w1 w2 w3 w4 => by rw [fe3 x (by omega), fe2 x w1, fe1 x w2]
  have hs3 : ∀ j, j ≠ 24 → mI M3 s j = mI M s j := fun j hj => (s3 j hj).trans (s2 j hj)
  have hsw : sameW M M3 s := ⟨⟨hs3 1 (by omega), hs3 2 (by omega), hs3 3 (by omega), fun x a b => hfar x (by omega) (by omega) (by omega) (by omega)⟩, hs3 17 (by omega), hfar _ (by omega) (by omega) (by omega) (by omega)⟩
  have f03 : FI (aS s) M M3 := ((f1.mono (fun y q => by omega)).trans (f2.mono (fun y q => by omega))).trans (f3.mono (fun y q => by omega))
  have hAC : AC M s n m ρ M3 := by
    refine ⟨hG, hC, hn, hm, hL, by rw [hmk]; exact hrk, by rw [hmk]; exact hfx, hP, hsw, s34, fun r hr => ?_, fun k hk hk2 => e3 k hk ((hu k).2 hk2), fun f => ?_⟩
    · obtain ⟨a1, a2, a3, a4⟩ := e1 r hr
      exact ⟨a1, a2, (hu _).1 a3, a4⟩
    · have a := e4 f
      have b : sm (fun r => f (uu M3 s r)) m = sm (fun r => f (mI M3 (s + 39) r).toNat) m := rfl
      rw [b, a]
      refine sm_congr n (fun k hk => ?_)
      by_cases q : unk M2 s k
      · rw [if_pos q, if_pos ((hu k).1 q)]
      · rw [if_neg q, if_neg (fun w => q ((hu k).2 w))]
  have e35 : mI M3 (s + 35) = mI M (s + 35) := hfar _ (by omega) (by omega) (by omega) (by omega)
  have hAH : AH M s M3 M3 := by
    refine ⟨o3, V3, FI.refl, ?_, ?_, ?_, hP.out hsw e35, fun k _ => by rw [e35]⟩
    · exact ((hW.far f1 (fun y q => by omega)).far f2 (fun y q => by omega)).far f3 (fun y q => by omega)
    · exact ((hT.out f1 (fun y q => by omega)).out f2 (fun y q => by omega)).out f3 (fun y q => by omega)
    · exact ((hR.out f1 (fun y q => by omega)).out f2 (fun y q => by omega)).out f3 (fun y q => by omega)
  refine an_settle hAC hAH (fun M6 x h6 X6 v6 _ => ?_)
  obtain ⟨t', ht'⟩ := ms_ex hF n v6.1
  refine s_an89 hF hAC (fun M' x' h' X' r' => ?_) t' x M6 h6 X6 v6 ht'
  obtain ⟨o7, V7, f7, W7, T7, R7, P7, k7⟩ := h'
  have fe7 := f7.2.2.2.2.2.2
  exact ⟨o7, f03.trans (f7.mono (fun y q => by omega)), fun j hj => by rw [fe7 s (by omega)]; exact hs3 j hj, W7, T7, R7, P7, k7, _, ρ, x', X', r'⟩
end AN
end
