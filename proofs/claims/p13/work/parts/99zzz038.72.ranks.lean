/-! The solver: the states that come to the end, and their rows. -/
/-- what is played is a command that may be taken -/
def PLo (M : mM) (s : Nat) : Prop := ∀ k : Nat, (k : Int) < mI M s 1 → 0 < mny M s k → 0 ≤ mI M (s + 35) k ∧ mI M (s + 35) k < mny M s k ∧ mayP M s k (pl M s k)
def sameW (M M' : mM) (s : Nat) : Prop := sameG M M' s ∧ mI M' s 17 = mI M s 17 ∧ mI M' (s + 32) = mI M (s + 32)
theorem sameW.refl {M : mM} {s : Nat} : sameW M M s := ⟨sameG.refl, rfl, rfl⟩
theorem sameW.trans {M M' M'' : mM} {s : Nat} (h : sameW M M' s) (h' : sameW M' M'' s) : sameW M M'' s := ⟨h.1.trans h'.1, h'.2.1.trans h.2.1, h'.2.2.trans h.2.2⟩
theorem sameW.of {S : Nat → Prop} {M M' : mM} {s : Nat} (f : FI S M M') (h0 : ¬ S s) (h1 : ∀ x, s + 22 ≤ x → x ≤ s + 28 → ¬ S x) (h2 : ¬ S (s + 32)) : sameW M M' s :=
  ⟨sameG.of f h0 h1, by rw [f.2.2.2.2.2.2 s h0], f.2.2.2.2.2.2 _ h2⟩
theorem sameW.may {M M' : mM} {s : Nat} (h : sameW M M' s) : mayP M' s = mayP M s := by
  funext k i
  unfold mayP
  rw [h.2.1, h.2.2, h.1.2.2.2 (s + 22) (by omega) (by omega)]
theorem sameG.hld {M M' : mM} {s : Nat} (h : sameG M M' s) : LD M' s = LD M s := by
  funext k i T
  unfold LD
  rw [h.hn, h.hx, h.ht, h.hb]
def Rnk (M : mM) (s n : Nat) (A : Nat → Prop) (ρ σ : Nat → Nat) : Prop := ∀ k, k < n → A k → mI M (s + 22) k ≠ 3 → (mI M (s + 22) k = 1 ∧ (σ k : Int) < mny M s k ∧ LD M s k (σ k) (fun t => A t ∧ ρ t < ρ k)) ∨ (mI M (s + 22) k = 2 ∧ 0 < mny M s k ∧ ∀ i : Nat, (i : Int) < mny M s k → mayP M s k i → LD M s k i (fun t => A t ∧ ρ t < ρ k))
def Fix (M : mM) (s n : Nat) (A : Nat → Prop) (σ : Nat → Nat) : Prop := (∀ k, k < n → mI M (s + 22) k = 3 → A k) ∧ ∀ k, k < n → ¬ A k → (mI M (s + 22) k = 1 → (σ k : Int) < mny M s k → ¬ LD M s k (σ k) A) ∧ (mI M (s + 22) k = 2 → 0 < mny M s k → ∃ i : Nat, (i : Int) < mny M s k ∧ mayP M s k i ∧ ¬ LD M s k i A)
/-- look has found at most 40 unknown states, not too heavy -/
def LQ (M : mM) (s n : Nat) : Prop := ∃ τ w : Nat → Int, (∀ k, k < n → mI M (s + 22) k = 3 → τ k ≠ 0) ∧ (∀ k, k < n → τ k = 0 → (mI M (s + 22) k = 1 → ∀ i : Nat, (i : Int) < mny M s k → mayP M s k i → ¬ LD M s k i (fun t => τ t ≠ 0)) ∧ (mI M (s + 22) k = 2 → 0 < mny M s k → ∃ i : Nat, (i : Int) < mny M s k ∧ mayP M s k i ∧ ¬ LD M s k i (fun t => τ t ≠ 0)))
  ∧ (∀ k, k < n → τ k ≠ 0 → mI M (s + 22) k ≠ 3 → 0 ≤ w k ∧ ∀ i : Nat, (i : Int) < mny M s k → mayP M s k i → 2 * mI M (s + 24) (cx M s k i) ≤ 2 ^ (w k).toNat) ∧ (∀ k, k < n → 0 ≤ w k) ∧ sm w n ≤ 480 ∧ sm (fun k => if τ k ≠ 0 ∧ mI M (s + 22) k ≠ 3 then 1 else 0) n ≤ 40
theorem sameW.lq {M M' : mM} {s n : Nat} (h : sameW M M' s) (r : LQ M s n) : LQ M' s n := by
  unfold LQ at r ⊢
  rw [h.1.hm, h.may, h.1.hld, h.1.hx, h.1.2.2.2 (s + 22) (by omega) (by omega), h.1.2.2.2 (s + 24) (by omega) (by omega)]
  exact r
theorem LD.mono {M : mM} {s k i : Nat} {T T' : Nat → Prop} (h : LD M s k i T) (hG : GW M s) (hk : (k : Int) < mI M s 1) (hi : (i : Int) < mny M s k) (ht : ∀ t : Nat, (t : Int) < mI M s 1 → T t → T' t) : LD M s k i T' := by
  obtain ⟨b, h1, h2⟩ := h
  exact ⟨b, h1, ht _ (tg_lt hG (cx_lt hG hk hi) h1) h2⟩
section RK
variable {M M1 : mM} {s n t : Nat} {ρ : Nat → Nat}
theorem gv_rnk (hG : GW M s) (hn : mI M s 1 = n) (h : gvI M s 1 M1 ρ t) : Rnk M s n (mkd M1 s) ρ (pl M s) := by
  intro k hk hA h3
  have hkI : (k : Int) < mI M s 1 := by omega
  obtain ⟨a1, a2, a3⟩ := h.2.2 k hkI
  have hA' : mI M1 (s + 36) k ≠ 0 := hA
  obtain ⟨-, c⟩ := a3 (by omega)
  rcases c with c | ⟨c1, i, c2, c3, c4⟩ | ⟨c1, c2, c3⟩
  · exact absurd c h3
  · left
    have e : mI M (s + 35) k = i := by
      rcases c3 with w | w
      · rcases w.1 with w | w
        · exact absurd c1 w
        · omega
      · exact w.2
    have ep : pl M s k = i := by unfold pl; omega
    rw [ep]
    exact ⟨c1, c2, (leadQ_LD hG hkI c2).1 c4⟩
  · right
    exact ⟨c1, c2, fun i hi hm => (leadQ_LD hG hkI hi).1 (c3 i hi (Or.inl ⟨Or.inl (by omega), hm⟩))⟩
theorem gv_fix (hG : GW M s) (hn : mI M s 1 = n) (hP : PLo M s) (h : gvQ M s 1 M1) : Fix M s n (mkd M1 s) (pl M s) := by
  obtain ⟨⟨ρ, t, h1⟩, h2⟩ := h
  refine ⟨fun k hk h3 => ?_, fun k hk hA => ⟨fun c1 hp hl => ?_, fun c1 hp => ?_⟩⟩
  · have a := (h1.2.2 k (by omega)).2.1 h3
    show mI M1 (s + 36) k ≠ 0
    omega
  · have hkI : (k : Int) < mI M s 1 := by omega
    have h0 : mI M1 (s + 36) k = 0 := Classical.byContradiction (fun w => hA w)
    have pk := hP k hkI (by omega)
    exact h2 k hkI h0 (Or.inl ⟨c1, pl M s k, hp, Or.inr ⟨fun w => by omega, by unfold pl; omega⟩, (leadQ_LD hG hkI hp).2 hl⟩)
  · have hkI : (k : Int) < mI M s 1 := by omega
    have h0 : mI M1 (s + 36) k = 0 := Classical.byContradiction (fun w => hA w)
    refine Classical.byContradiction (fun w => ?_)
    refine h2 k hkI h0 (Or.inr ⟨c1, hp, fun i hi hu => ?_⟩)
    have hm : mayP M s k i := by
      rcases hu with u | u
      · exact u.2
      · exact absurd (Or.inl (by omega)) u.1
    exact (leadQ_LD hG hkI hi).2 (Classical.byContradiction (fun w2 => w ⟨i, hi, hm, w2⟩))
/-- whoever comes to the end so, is seen by look -/
theorem ins_sub {A : Nat → Prop} {τ : Nat → Int} (hG : GW M s) (hn : mI M s 1 = n) (hP : PLo M s) (hR : Rnk M s n A ρ (pl M s)) (h3 : ∀ k, k < n → mI M (s + 22) k = 3 → τ k ≠ 0) (hτ : ∀ k, k < n → τ k = 0 → (mI M (s + 22) k = 1 → ∀ i : Nat, (i : Int) < mny M s k → mayP M s k i → ¬ LD M s k i (fun t => τ t ≠ 0)) ∧ (mI M (s + 22) k = 2 → 0 < mny M s k → ∃ i : Nat, (i : Int) < mny M s k ∧ mayP M s k i ∧ ¬ LD M s k i (fun t => τ t ≠ 0))) : ∀ k, k < n → A k → τ k ≠ 0 := by
  suffices H : ∀ r k, ρ k = r → k < n → A k → τ k ≠ 0 from fun k => H (ρ k) k rfl
  intro r
  induction r using Nat.strongRecOn with
  | ind r ih =>
    intro k er hk hA h0
    have hkI : (k : Int) < mI M s 1 := by omega
    have hK : mI M (s + 22) k ≠ 3 := fun w => h3 k hk w h0
    have key : ∀ t : Nat, (t : Int) < mI M s 1 → (A t ∧ ρ t < ρ k) → τ t ≠ 0 := fun t ht w => ih (ρ t) (by omega) t rfl (by omega) w.1
    rcases hR k hk hA hK with ⟨c1, c2, c3⟩ | ⟨c1, c2, c3⟩
    · exact (hτ k hk h0).1 c1 (pl M s k) c2 (hP k hkI (by omega)).2.2 (c3.mono hG hkI c2 key)
    · obtain ⟨i, i1, i2, i3⟩ := (hτ k hk h0).2 c1 c2
      exact i3 ((c3 i i1 i2).mono hG hkI i1 key)
end RK
/-- the unknown states up to i have their rows -/
abbrev nS (s : Nat) : Nat → Prop := fun x => x = s ∨ x = s + 39 ∨ x = s + 40
def EnI (M : mM) (s i c : Nat) (M2 : mM) : Prop := (mOk M2 ∧ FI (nS s) M M2 ∧ (∀ j, j ≠ 24 → mI M2 s j = mI M s j) ∧ mI M2 s 24 = c) ∧ (∀ r, r < c → 0 ≤ mI M2 (s + 39) r ∧ mI M2 (s + 39) r < i ∧ unk M s (mI M2 (s + 39) r).toNat ∧ mI M2 (s + 40) (mI M2 (s + 39) r).toNat = r)
  ∧ (∀ k, k < i → unk M s k → 0 ≤ mI M2 (s + 40) k ∧ mI M2 (s + 40) k < c ∧ mI M2 (s + 39) (mI M2 (s + 40) k).toNat = k) ∧ ∀ f : Nat → Int, sm (fun r => f (mI M2 (s + 39) r).toNat) c = sm (fun k => if unk M s k then f k else 0) i
section VS
variable {G : mG} {d s n : Nat} {M : mM}
theorem en_step {i c : Nat} {M2 M5 : mM} (h : EnI M s i c M2) (hu : unk M s i) (o5 : mOk M5) (f5 : FI (nS s) M2 M5) (h5 : ∀ j, j ≠ 24 → mI M5 s j = mI M2 s j) (h24 : mI M5 s 24 = (c : Int) + 1) (h39 : ∀ r, mI M5 (s + 39) r = if r = c then (i : Int) else mI M2 (s + 39) r) (h40 : ∀ k, mI M5 (s + 40) k = if k = i then (c : Int) else mI M2 (s + 40) k) : EnI M s (i + 1) (c + 1) M5 := by
  obtain ⟨⟨a1, a2, a3, a4⟩, a5, a6, a7⟩ := h
  refine ⟨⟨o5, a2.trans f5, fun j hj => (h5 j hj).trans (a3 j hj), by omega⟩, fun r hr => ?_, fun k hk hk2 => ?_, fun f => ?_⟩
  · rw [h39]
    by_cases q : r = c
    · rw [if_pos q, Int.toNat_natCast, h40, if_pos rfl]
      exact ⟨by omega, by omega, hu, by omega⟩
    · rw [if_neg q]
      obtain ⟨b1, b2, b3, b4⟩ := a5 r (by omega)
      rw [h40, if_neg (by omega)]
      exact ⟨b1, by omega, b3, b4⟩
  · rw [h40]
    by_cases q : k = i
    · rw [if_pos q, Int.toNat_natCast, h39, if_pos rfl]
      omega
    · rw [if_neg q]
      obtain ⟨b1, b2, b3⟩ := a6 k (by omega) hk2
      rw [h39, if_neg (by omega)]
      exact ⟨b1, by omega, b3⟩
  · rw [sm, sm, if_pos hu, ← a7 f, h39, if_pos rfl, Int.toNat_natCast]
    rw [sm_congr (g := fun r => f (mI M2 (s + 39) r).toNat) c (fun r hr => by rw [h39, if_neg (by omega)])]
theorem s_an12 {Q : mM → Prop} (hV : Vk M s) (hn : mI M s 1 = n) (hn5 : n ≤ 512) (h40 : sm (fun k => if unk M s k then 1 else 0) n ≤ 40) (hQ : ∀ m M', m ≤ 40 → EnI M s n m M' → h_MS_answer_77 G d s 1 M' Q) :
    ∀ (t i c : Nat) (M2 : mM), i + t = n → EnI M s i c M2 → h_MS_answer_12 G d s i M2 Q := by
  have hcnt : ∀ i c (M2 : mM), EnI M s i c M2 → i ≤ n → (c : Int) = sm (fun k => if unk M s k then 1 else 0) i ∧ (c : Int) ≤ 40 := fun i c M2 h hi => by
    have e := h.2.2.2 (fun _ => 1)
    have e1 : ∀ c : Nat, sm (fun _ => (1 : Int)) c = c := fun c => by
      induction c with
      | zero => rfl
      | succ c ih => rw [sm, ih]; omega
    have e2 : sm (fun r => (fun _ => (1 : Int)) (mI M2 (s + 39) r).toNat) c = c := e1 c
    rw [e2] at e
    have p := sm_part (f := fun k => if unk M s k then (1 : Int) else 0) (a := i) (n - i) (fun k _ => by show (0 : Int) ≤ if unk M s k then 1 else 0; split <;> omega)
    rw [show i + (n - i) = n by omega] at p
    exact ⟨e, by omega⟩
  intro t
  induction t with
  | zero =>
    intro i c M2 hi h
    have ei : i = n := by omega
    subst ei
    have hc := hcnt i c M2 h (by omega)
    obtain ⟨a1, a2, a3, a4⟩ := h.1
    refine k_MS_answer_12 a1 ⟨by omega, by omega⟩ ?_
    rw [a3 1 (by omega), hn]
    exact ⟨(hV.fi a2).k0, fun _ => hQ c M2 (by omega) h, fun w => by omega⟩
  | succ t ih =>
    intro i c M2 hi h
    have hc := hcnt i c M2 h (by omega)
    obtain ⟨a1, a2, a3, a4⟩ := h.1
    have V2 := hV.fi a2
    have fe := a2.2.2.2.2.2.2
    refine k_MS_answer_12 a1 ⟨by omega, by omega⟩ ?_
    rw [a3 1 (by omega), hn, V2.r19, V2.r4, V2.r22, V2.n36, V2.n22, V2.n39, fe (s + 36) (by omega), fe (s + 22) (by omega), a4, Int.toNat_natCast, Int.toNat_natCast]
    refine ⟨V2.k0, fun w => by omega, fun _ => ⟨V2.k36, by omega, fun _ => ⟨V2.k22, by omega⟩, fun w => ?_, fun w => ?_⟩⟩
    · have hnu : ¬ unk M s i := fun u => by rcases w with w | w; exact u.1 w; exact u.2 w
      refine ih (i + 1) c M2 (by omega) ⟨h.1, fun r hr => ?_, fun k hk hu => ?_, fun f => ?_⟩
      · obtain ⟨b1, b2, b3⟩ := h.2.1 r hr
        exact ⟨b1, by omega, b3⟩
      · have : k ≠ i := fun z => hnu (by rw [← z]; exact hu)
        exact h.2.2.1 k (by omega) hu
      · rw [h.2.2.2 f, sm, if_neg hnu]
        omega
    · have hu : unk M s i := ⟨fun z => w (Or.inl z), fun z => w (Or.inr z)⟩
      have hc1 := hcnt i c M2 h (by omega)
      have hlt : (c : Int) < 40 := by
        have p := sm_part (f := fun k => if unk M s k then (1 : Int) else 0) (a := i + 1) (n - (i + 1)) (fun k _ => by show (0 : Int) ≤ if unk M s k then 1 else 0; split <;> omega)
        rw [show i + 1 + (n - (i + 1)) = n by omega, sm, if_pos hu] at p
        omega
      refine ⟨V2.k39, by omega, fun M3 e3 => ?_⟩
      have f3 : FI (nS s) M2 M3 := by rw [e3]; exact FI.ui (Or.inr (Or.inl rfl))
      have V3 := V2.fi f3
      have s3 : mI M3 s = mI M2 s := by rw [e3]; funext j; rw [mI_UI, if_neg (by omega)]
      rw [V3.r23, V3.n40, s3, a4]
      refine ⟨V3.k40, by omega, fun M4 e4 => ?_⟩
      have f4 : FI (nS s) M3 M4 := by rw [e4]; exact FI.ui (Or.inr (Or.inr rfl))
      have s4 : mI M4 s = mI M2 s := by rw [e4]; funext j; rw [mI_UI, if_neg (by omega), s3]
      rw [s4, a4]
      refine ⟨⟨by omega, by omega⟩, fun M5 e5 => ?_⟩
      have f5 : FI (nS s) M4 M5 := by rw [e5]; exact FI.ui (Or.inl rfl)
      have o5 : mOk M5 := by
        rw [e5]
        refine mOk_UI ?_ ⟨by omega, by omega⟩
        rw [e4]
        refine mOk_UI ?_ ⟨by omega, by omega⟩
        rw [e3]
        exact mOk_UI a1 ⟨by omega, by omega⟩
      refine ih (i + 1) (c + 1) M5 (by omega) (en_step h hu o5 ((f3.trans f4).trans f5) (fun j hj => ?_) ?_ (fun r => ?_) (fun k => ?_))
      · rw [e5, mI_UI, if_neg (fun w => hj w.2), s4]
      · rw [e5, mI_UI, if_pos ⟨rfl, rfl⟩]
      · rw [e5, mI_UI, if_neg (by omega), e4, mI_UI, if_neg (by omega), e3, mI_UI]
        by_cases q : r = c
        · rw [if_pos ⟨rfl, q⟩, if_pos q]
        · rw [if_neg (fun w => q w.2), if_neg q]
      · rw [e5, mI_UI, if_neg (by omega), e4, mI_UI]
        by_cases q : k = i
        · rw [if_pos ⟨rfl, q⟩, if_pos q]
        · rw [if_neg (fun w => q w.2), if_neg q, e3, mI_UI, if_neg (by omega)]
end VS
