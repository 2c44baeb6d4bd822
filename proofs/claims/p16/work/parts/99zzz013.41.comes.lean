section
/-! The reference's solver: which states come to the end, in words of sets. -/
def exP (P : Nat → Prop) (n : Nat) : Prop := ∃ j, j < n ∧ P j
def alP (P : Nat → Prop) (n : Nat) : Prop := ∀ j, j < n → P j
theorem exP_succ {P : Nat → Prop} {n : Nat} : exP P (n + 1) ↔ exP P n ∨ P n := by
  constructor
  · rintro ⟨j, h1, h2⟩
    by_cases c : j = n
    · subst c; exact Or.inr h2
    · exact Or.inl ⟨j, by omega, h2⟩
  · rintro (⟨j, h1, h2⟩ | h)
    · exact ⟨j, by omega, h2⟩
    · exact ⟨n, by omega, h⟩
theorem alP_succ {P : Nat → Prop} {n : Nat} : alP P (n + 1) ↔ alP P n ∧ P n := by
  constructor
  · intro h
    exact ⟨fun j hj => h j (by omega), h n (by omega)⟩
  · rintro ⟨h1, h2⟩ j hj
    by_cases c : j = n
    · subst c; exact h2
    · exact h1 j (by omega)
theorem comesQ.mono {T T' : Nat → Prop} {M : mM} {s i : Nat} {l : Int} (hG : GW M s) (hi : (i : Int) < mI M s 1) (h : ∀ x : Nat, (x : Int) < mI M s 1 → T x → T' x) (c : comesQ T M s i l) : comesQ T' M s i l := by
  have hl : ∀ k : Nat, (k : Int) < mny M s i → leadQ T M s i k → leadQ T' M s i k := by
    rintro k hk ⟨b, b1, b2, b3⟩
    have h1 := hG.cmd hi
    unfold mny at hk
    have h2 := hG.brn (c := (mI M (s + 23) i).toNat + k) (by omega)
    have h3 := hG.2.2.2.2.2.2.2.2.2.2 b (by omega)
    exact ⟨b, b1, b2, h _ (by omega) b3⟩
  rcases c with ⟨c1, k, c2, c3, c4⟩ | ⟨c1, c2, c3⟩
  · exact Or.inl ⟨c1, k, c2, c3, hl k c2 c4⟩
  · exact Or.inr ⟨c1, c2, fun k hk hu => hl k hk (c3 k hk hu)⟩
theorem comesQ.out {S T : Nat → Prop} {M M' : mM} {s i : Nat} {l : Int} (f : FI S M M') (h0 : ¬ S s) (h1 : ∀ x, s + 22 ≤ x → x ≤ s + 35 → ¬ S x) : comesQ T M' s i l ↔ comesQ T M s i l := by
  obtain ⟨-, -, -, -, -, -, f⟩ := f
  unfold comesQ useP mayP leadQ mny
  rw [f s h0, f (s + 22) (h1 _ (by omega) (by omega)), f (s + 23) (h1 _ (by omega) (by omega)), f (s + 25) (h1 _ (by omega) (by omega)), f (s + 26) (h1 _ (by omega) (by omega)), f (s + 32) (h1 _ (by omega) (by omega)), f (s + 35) (h1 _ (by omega) (by omega))]
section VS
variable {G : mG} {d s : Nat} {M : mM}
theorem s_MS_comes {i : Nat} {l : Int} (hl : i32 l) (hO : mOk M) (hV : Vk M s) (hG : GW M s) (hi : (i : Int) < mI M s 1) : Ci G y_MS_comes (d + 1) [vr s, vi i, vi l] M (fun x M' => M' = M ∧ (x = 0 ∨ x = 1) ∧ (x ≠ 0 ↔ comesQ (mkd M s) M s i l)) := by
  have h2 := hG.2.1
  have h3 := hG.2.2.1
  have hc := hG.cmd hi
  have hm0 : 0 ≤ mny M s i ∧ mny M s i ≤ 4200 := by unfold mny; omega
  refine k_MS_comes hO ⟨by omega, by omega⟩ hl ⟨hV.k0, (s_MS_many hO hV hG hi).mono (fun x M1 h1 => ?_)⟩
  obtain ⟨e1, hx⟩ := h1
  subst e1
  refine ⟨⟨by omega, by omega⟩, hO, fun v hv => ?_⟩
  suffices H : ∀ (n k : Nat) (e a : Int), mny M1 s i - k = n → (e = 0 ∨ e = 1) → (a = 0 ∨ a = 1) → (e ≠ 0 ↔ exP (fun k => useP M1 s i k l ∧ leadQ (mkd M1 s) M1 s i k) k) → (a ≠ 0 ↔ (0 < mny M1 s i ∧ alP (fun k => useP M1 s i k l → leadQ (mkd M1 s) M1 s i k) k)) → h_MS_comes_20 G d s i l e a k M1 (fun x M' => M' = M1 ∧ (x = 0 ∨ x = 1) ∧ (x ≠ 0 ↔ comesQ (mkd M1 s) M1 s i l)) by
    refine H (mny M1 s i).toNat 0 0 v (by omega) (Or.inl rfl) (by split at hv <;> omega) ⟨fun q => absurd rfl q, fun ⟨j, j1, _⟩ => by omega⟩ ?_
    by_cases c : x ≤ 0
    · rw [if_pos c] at hv
      exact ⟨fun q => absurd hv q, fun q => by have := q.1; omega⟩
    · rw [if_neg c] at hv
      exact ⟨fun _ => ⟨by omega, fun j hj => by omega⟩, fun _ => by omega⟩
  clear hv hx v x
  intro n
  induction n with
  | zero =>
    intro k e a hn he ha hqe hqa
    refine k_MS_comes_20 hO ⟨by omega, by omega⟩ hl ⟨by omega, by omega⟩ ⟨by omega, by omega⟩ ⟨by omega, by omega⟩ ⟨hV.k0, (s_MS_many hO hV hG hi).mono (fun x M2 h2' => ?_)⟩
    obtain ⟨e2, hx⟩ := h2'
    subst e2
    refine ⟨⟨by omega, by omega⟩, hO, fun _ => ?_, fun c => by omega⟩
    rw [hV.r4, hV.n22, Int.toNat_natCast]
    have hk : k = (mny M2 s i).toNat := by omega
    refine ⟨hV.k0, hV.k22, by omega, fun _ => by omega, fun v hv => ?_⟩
    have hv01 : v = 0 ∨ v = 1 := by split at hv <;> (try split at hv) <;> (try split at hv) <;> omega
    refine ⟨hv01, rfl, hv01, ?_⟩
    unfold comesQ
    by_cases c1 : mI M2 (s + 22) i = 1
    · rw [if_pos c1] at hv
      rw [hv, hqe]
      constructor
      · rintro ⟨j, j1, j2, j3⟩
        exact Or.inl ⟨c1, j, by omega, j2, j3⟩
      · rintro (⟨_, j, j1, j2, j3⟩ | ⟨q, -⟩)
        · exact ⟨j, by omega, j2, j3⟩
        · omega
    · rw [if_neg c1] at hv
      by_cases c2 : mI M2 (s + 22) i = 2
      · rw [if_pos c2] at hv
        have hva : v ≠ 0 ↔ a ≠ 0 := by
          by_cases z : a = 0
          · rw [if_pos z] at hv; exact ⟨fun q => absurd hv q, fun q => absurd z q⟩
          · rw [if_neg z] at hv; exact ⟨fun _ => z, fun _ => by omega⟩
        rw [hva, hqa]
        constructor
        · rintro ⟨p1, p2⟩
          exact Or.inr ⟨c2, p1, fun j hj => p2 j (by omega)⟩
        · rintro (⟨q, -⟩ | ⟨_, p1, p2⟩)
          · exact absurd q c1
          · exact ⟨p1, fun j hj => p2 j (by omega)⟩
      · rw [if_neg c2] at hv
        constructor
        · intro q; exact absurd hv q
        · rintro (⟨q, -⟩ | ⟨q, -⟩)
          · exact absurd q c1
          · exact absurd q c2
  | succ n ih =>
    intro k e a hn he ha hqe hqa
    have hkm : (k : Int) < mny M1 s i := by omega
    have hk9 : (k : Int) < 100000 := by omega
    refine k_MS_comes_20 hO ⟨by omega, by omega⟩ hl ⟨by omega, by omega⟩ ⟨by omega, by omega⟩ ⟨by omega, by omega⟩ ⟨hV.k0, (s_MS_many hO hV hG hi).mono (fun x M2 h2' => ?_)⟩
    obtain ⟨e2, hx⟩ := h2'
    subst e2
    have h92 : ∀ f g : Int, (f = 0 ∨ f = 1) → (g = 0 ∨ g = 1) → (f ≠ 0 ↔ useP M2 s i k l) → (g ≠ 0 ↔ (useP M2 s i k l ∧ leadQ (mkd M2 s) M2 s i k)) → h_MS_comes_92 G d s i l e a k f g M2 (fun x M' => M' = M2 ∧ (x = 0 ∨ x = 1) ∧ (x ≠ 0 ↔ comesQ (mkd M2 s) M2 s i l)) := by
      intro f g hf hg hqf hqg
      refine k_MS_comes_92 hO ⟨by omega, by omega⟩ hl ⟨by omega, by omega⟩ ⟨by omega, by omega⟩ ⟨by omega, by omega⟩ ⟨by omega, by omega⟩ ⟨by omega, by omega⟩ (fun v hv w hw => ?_)
      refine ih (k + 1) v w (by omega) (by split at hv <;> omega) (by split at hw <;> omega) ?_ ?_
      · rw [exP_succ, ← hqe, ← hqg]
        by_cases c : e = 0 ∧ g = 0
        · rw [if_pos c] at hv
          exact ⟨fun q => absurd hv q, fun q => by rcases q with q | q; exact absurd c.1 q; exact absurd c.2 q⟩
        · rw [if_neg c] at hv
          refine ⟨fun _ => ?_, fun _ => by omega⟩
          by_cases z : e = 0
          · exact Or.inr (fun q => c ⟨z, q⟩)
          · exact Or.inl z
      · rw [alP_succ, ← and_assoc, ← hqa]
        by_cases c : a = 0 ∨ (¬ f = 0 ∧ g = 0)
        · rw [if_pos c] at hw
          refine ⟨fun q => absurd hw q, fun q => ?_⟩
          rcases c with c | c
          · exact absurd c q.1
          · exact absurd c.2 (hqg.2 ⟨hqf.1 c.1, q.2 (hqf.1 c.1)⟩)
        · rw [if_neg c] at hw
          refine ⟨fun _ => ⟨fun q => c (Or.inl q), fun u => ?_⟩, fun _ => by omega⟩
          have hg0 : g ≠ 0 := fun q => c (Or.inr ⟨hqf.2 u, q⟩)
          exact (hqg.1 hg0).2
    have h70 : ∀ f : Int, (f = 0 ∨ f = 1) → (f ≠ 0 ↔ useP M2 s i k l) → h_MS_comes_70 G d s i l e a k f M2 (fun x M' => M' = M2 ∧ (x = 0 ∨ x = 1) ∧ (x ≠ 0 ↔ comesQ (mkd M2 s) M2 s i l)) := by
      intro f hf hqf
      refine k_MS_comes_70 hO ⟨by omega, by omega⟩ hl ⟨by omega, by omega⟩ ⟨by omega, by omega⟩ ⟨by omega, by omega⟩ ⟨by omega, by omega⟩ ⟨fun c => ?_, fun c => ⟨hV.k0, (s_MS_leadsIn hO hV hG hi hkm).mono (fun y M3 h3' => ?_)⟩⟩
      · refine h92 f 0 hf (Or.inl rfl) hqf ⟨fun q => absurd rfl q, fun q => absurd c (hqf.2 q.1)⟩
      · obtain ⟨e3, hy, hqy⟩ := h3'
        subst e3
        refine ⟨⟨by omega, by omega⟩, hO, fun z => ?_, fun z => ?_⟩
        · exact h92 f 0 hf (Or.inl rfl) hqf ⟨fun q => absurd rfl q, fun q => absurd z (hqy.2 q.2)⟩
        · exact h92 f 1 hf (Or.inr rfl) hqf ⟨fun _ => ⟨hqf.1 c, hqy.1 z⟩, fun _ => by omega⟩
    rw [hV.r4, hV.r18, hV.n22, hV.n35, Int.toNat_natCast]
    refine ⟨⟨by omega, by omega⟩, hO, fun c => by omega, fun _ => ⟨hV.k0, hV.k22, by omega, fun c => ?_, fun c => ⟨hV.k35, by omega, fun q => ?_, fun q => ?_⟩⟩⟩
    · refine (s_MS_may hk9 hO hV hG hi).mono (fun y M3 h3' => ?_)
      obtain ⟨e3, hy, hqy⟩ := h3'
      subst e3
      refine ⟨⟨by omega, by omega⟩, hO, h70 y hy ?_⟩
      rw [hqy]
      unfold useP
      exact ⟨fun q => Or.inl ⟨c, q⟩, fun q => by rcases q with q | q; exact q.2; exact absurd c q.1⟩
    · refine h70 1 (Or.inr rfl) ⟨fun _ => Or.inr ⟨c, q⟩, fun _ => by omega⟩
    · refine h70 0 (Or.inl rfl) ⟨fun w => absurd rfl w, fun w => ?_⟩
      rcases w with w | w
      · exact absurd w.1 c
      · exact absurd w.2 q
end VS
end
section
/-! The reference's solver: growing the set of states that come to the end. -/
def cz (f : Nat → Int) : Nat → Nat
  | 0 => 0
  | n + 1 => cz f n + (if f n = 0 then 1 else 0)
theorem cz_congr {f g : Nat → Int} : ∀ (n : Nat), (∀ j, j < n → f j = g j) → cz f n = cz g n
  | 0, _ => rfl
  | n + 1, h => by rw [cz, cz, cz_congr n (fun j hj => h j (by omega)), h n (by omega)]
theorem cz_set {f g : Nat → Int} {i : Nat} (h0 : f i = 0) (h1 : g i = 1) (h : ∀ j, j ≠ i → g j = f j) : ∀ (n : Nat), i < n → cz g n + 1 = cz f n
  | 0, hi => by omega
  | n + 1, hi => by
    rw [cz, cz]
    by_cases c : i = n
    · rw [← c, h0, h1, cz_congr i (fun j hj => h j (by omega))]
      simp
    · have := cz_set h0 h1 h n (by omega)
      rw [h n (by omega)]
      omega
/-- the marks so far: each marked state comes to states marked before it -/
def gvI (M : mM) (s : Nat) (l : Int) (M1 : mM) (ρ : Nat → Nat) (t : Nat) : Prop := mOk M1 ∧ FI (fun x => x = s + 36) M M1 ∧ (∀ j : Nat, (j : Int) < mI M s 1 → (mI M1 (s + 36) j = 0 ∨ mI M1 (s + 36) j = 1) ∧ (mI M (s + 22) j = 3 → mI M1 (s + 36) j = 1) ∧ (mI M1 (s + 36) j = 1 → ρ j < t ∧ (mI M (s + 22) j = 3 ∨ comesQ (fun x => mkd M1 s x ∧ ρ x < ρ j) M s j l)))
def upR (ρ : Nat → Nat) (i t x : Nat) : Nat := if x = i then t else ρ x
theorem upR_i {ρ : Nat → Nat} {i t : Nat} : upR ρ i t i = t := if_pos rfl
theorem upR_n {ρ : Nat → Nat} {i t x : Nat} (h : x ≠ i) : upR ρ i t x = ρ x := if_neg h
abbrev gvQ (M : mM) (s : Nat) (l : Int) : mM → Prop := fun M' => (∃ ρ t, gvI M s l M' ρ t) ∧ ∀ j : Nat, (j : Int) < mI M s 1 → mI M' (s + 36) j = 0 → ¬ comesQ (mkd M' s) M s j l
section VS
variable {G : mG} {d s : Nat} {M : mM}
theorem gv_mark {M1 M2 : mM} {l : Int} {ρ : Nat → Nat} {t i : Nat} (hG : GW M s) (h : gvI M s l M1 ρ t) (hi : (i : Int) < mI M s 1) (h0 : mI M1 (s + 36) i = 0) (hc : comesQ (mkd M1 s) M s i l) (e2 : M2 = mUI M1 (s + 36) i 1) (o2 : mOk M2) : gvI M s l M2 (upR ρ i t) (t + 1) := by
  obtain ⟨g1, g2, g3⟩ := h
  have f2 : FI (fun x => x = s + 36) M1 M2 := by rw [e2]; exact FI.ui rfl
  have hm : ∀ j, mI M2 (s + 36) j = if j = i then 1 else mI M1 (s + 36) j := fun j => by
    rw [e2, mI_UI]
    by_cases z : j = i
    · rw [if_pos ⟨rfl, z⟩, if_pos z]
    · rw [if_neg (fun w => z w.2), if_neg z]
  refine ⟨o2, g2.trans f2, fun j hj => ?_⟩
  obtain ⟨a1, a2, a3⟩ := g3 j hj
  have mono : ∀ x : Nat, mkd M1 s x → mkd M2 s x ∧ x ≠ i := fun x hx => by
    have : x ≠ i := fun q => by subst q; exact hx h0
    exact ⟨by show mI M2 (s + 36) x ≠ 0; rw [hm, if_neg this]; exact hx, this⟩
  rw [hm]
  by_cases z : j = i
  · subst z
    rw [if_pos rfl]
    refine ⟨Or.inr rfl, fun _ => rfl, fun _ => ⟨by rw [upR_i]; omega, Or.inr (hc.mono hG hi (fun x hx w => ?_))⟩⟩
    have hmx := mono x w
    refine ⟨hmx.1, ?_⟩
    have b := g3 x hx
    have w' : mI M1 (s + 36) x ≠ 0 := w
    have b1 : mI M1 (s + 36) x = 1 := by rcases b.1 with q | q; exact absurd q w'; exact q
    have b2 := (b.2.2 b1).1
    rw [upR_n hmx.2, upR_i]
    exact b2
  · rw [if_neg z]
    refine ⟨a1, a2, fun w => ?_⟩
    obtain ⟨c1, c2⟩ := a3 w
    rw [upR_n z]
    refine ⟨by omega, ?_⟩
    rcases c2 with c2 | c2
    · exact Or.inl c2
    · refine Or.inr (c2.mono hG hj (fun x hx w => ?_))
      have hmx := mono x w.1
      exact ⟨hmx.1, by rw [upR_n hmx.2]; exact w.2⟩
theorem s_MS_grow {l : Int} (hl : i32 l) (hO : mOk M) (hV : Vk M s) (hG : GW M s) : Cv G y_MS_grow (d + 2) [vr s, vi l] M (gvQ M s l) := by
  have h1 := hG.1
  have h2 := hG.2.1
  refine k_MS_grow hO hl ?_
  have h47 : ∀ (Z : Nat) (M1 : mM) (ρ : Nat → Nat) (t : Nat) (f : Int), gvI M s l M1 ρ t → cz (mI M1 (s + 36)) (mI M s 1).toNat ≤ Z → ((f = 0 ∧ ∀ j : Nat, (j : Int) < mI M s 1 → mI M1 (s + 36) j = 0 → ¬ comesQ (mkd M1 s) M s j l) ∨ f = 1) → h_MS_grow_39 G (d + 1) s l f M1 (gvQ M s l) := by
    intro Z
    induction Z with
    | zero =>
      intro M1 ρ t f h hz hf
      suffices H : ∀ (n : Nat) (k : Int), mI M s 1 - k = n → 0 ≤ k → h_MS_grow_47 G (d + 1) s l 0 k M1 (gvQ M s l) by
        refine k_MS_grow_39 h.1 hl ⟨by omega, by omega⟩ ⟨fun c => ⟨⟨ρ, t, h⟩, ?_⟩, fun c => H (mI M s 1).toNat 0 (by omega) (by omega)⟩
        rcases hf with q | q
        · exact q.2
        · omega
      have hV1 := hV.fi h.2.1
      have es : mI M1 s = mI M s := h.2.1.2.2.2.2.2.2 s (by omega)
      have hnz : ∀ j : Nat, (j : Int) < mI M s 1 → mI M1 (s + 36) j ≠ 0 := by
        have aux : ∀ (n : Nat), cz (mI M1 (s + 36)) n = 0 → ∀ j, j < n → mI M1 (s + 36) j ≠ 0 := by
          intro n
          induction n with
          | zero => intro _ j hj; omega
          | succ n ih =>
            intro hc j hj
            rw [cz] at hc
            by_cases q : j = n
            · subst q
              intro w
              rw [if_pos w] at hc
              omega
            · exact ih (by omega) j (by omega)
        exact fun j hj => aux (mI M s 1).toNat (by omega) j (by omega)
      intro n
      induction n with
      | zero =>
        intro k hn hk
        refine k_MS_grow_47 h.1 hl ⟨by omega, by omega⟩ ⟨by omega, by omega⟩ ?_
        rw [es]
        refine ⟨hV1.k0, fun _ => k_MS_grow_39 h.1 hl ⟨by omega, by omega⟩ ⟨fun c => ⟨⟨ρ, t, h⟩, fun j hj w => absurd w (hnz j hj)⟩, fun c => absurd rfl c⟩, fun c => by omega⟩
      | succ n ih =>
        intro k hn hk
        refine k_MS_grow_47 h.1 hl ⟨by omega, by omega⟩ ⟨by omega, by omega⟩ ?_
        rw [es, hV1.r19, hV1.n36]
        refine ⟨hV1.k0, fun c => by omega, fun _ => ⟨hV1.k36, by omega, fun c => absurd c (hnz k.toNat (by omega)), fun _ => ih (k + 1) (by omega) (by omega)⟩⟩
    | succ Z ihZ =>
      intro M1 ρ t f h hz hf
      suffices H : ∀ (n : Nat) (k f : Int) (M2 : mM) (ρ : Nat → Nat) (t : Nat), mI M s 1 - k = n → 0 ≤ k → gvI M s l M2 ρ t → ((f = 0 ∧ cz (mI M2 (s + 36)) (mI M s 1).toNat ≤ Z + 1 ∧ ∀ j : Nat, (j : Int) < k → mI M2 (s + 36) j = 0 → ¬ comesQ (mkd M2 s) M s j l) ∨ (f = 1 ∧ cz (mI M2 (s + 36)) (mI M s 1).toNat ≤ Z)) → h_MS_grow_47 G (d + 1) s l f k M2 (gvQ M s l) by
        refine k_MS_grow_39 h.1 hl ⟨by omega, by omega⟩ ⟨fun c => ⟨⟨ρ, t, h⟩, ?_⟩, fun c => H (mI M s 1).toNat 0 0 M1 ρ t (by omega) (by omega) h (Or.inl ⟨rfl, hz, fun j hj => by omega⟩)⟩
        rcases hf with q | q
        · exact q.2
        · omega
      clear hz hf h f t ρ M1
      intro n
      induction n with
      | zero =>
        intro k f M2 ρ t hn hk h hf
        have hV1 := hV.fi h.2.1
        have es : mI M2 s = mI M s := h.2.1.2.2.2.2.2.2 s (by omega)
        have hf01 : f = 0 ∨ f = 1 := by rcases hf with q | q; exact Or.inl q.1; exact Or.inr q.1
        refine k_MS_grow_47 h.1 hl ⟨by omega, by omega⟩ ⟨by omega, by omega⟩ ?_
        rw [es]
        refine ⟨hV1.k0, fun _ => ?_, fun c => by omega⟩
        rcases hf with q | q
        · refine k_MS_grow_39 h.1 hl ⟨by omega, by omega⟩ ⟨fun _ => ⟨⟨ρ, t, h⟩, fun j hj => q.2.2 j (by omega)⟩, fun c => absurd q.1 c⟩
        · exact ihZ M2 ρ t f h q.2 (Or.inr q.1)
      | succ n ih =>
        intro k f M2 ρ t hn hk h hf
        have hV1 := hV.fi h.2.1
        have hG1 := hG.out h.2.1 (by omega) (fun x _ _ => by omega)
        have es : mI M2 s = mI M s := h.2.1.2.2.2.2.2.2 s (by omega)
        have hf01 : f = 0 ∨ f = 1 := by rcases hf with q | q; exact Or.inl q.1; exact Or.inr q.1
        have ek : ((k.toNat : Nat) : Int) = k := by omega
        refine k_MS_grow_47 h.1 hl ⟨by omega, by omega⟩ ⟨by omega, by omega⟩ ?_
        rw [es, hV1.r19, hV1.n36]
        refine ⟨hV1.k0, fun c => by omega, fun _ => ⟨hV1.k36, by omega, fun c => ?_, fun c => ih (k + 1) f M2 ρ t (by omega) (by omega) h ?_⟩⟩
        · have hcm := s_MS_comes (G := G) (d := d) (i := k.toNat) hl h.1 hV1 hG1 (by rw [es]; omega)
          rw [ek] at hcm
          refine hcm.mono (fun x M3 h3 => ?_)
          obtain ⟨e3, hx, hqx⟩ := h3
          subst e3
          rw [comesQ.out h.2.1 (by omega) (fun x _ _ => by omega)] at hqx
          rw [hV1.r19, hV1.n36]
          refine ⟨⟨by omega, by omega⟩, h.1, fun _ => ⟨hV1.k0, hV1.k36, by omega⟩, fun v hv M4 e4 => ?_⟩
          by_cases z : x = 0
          · rw [if_pos z] at hv e4
            subst e4
            refine ⟨h.1, ?_⟩
            rw [hv]
            refine ih (k + 1) f M4 ρ t (by omega) (by omega) h ?_
            rcases hf with q | q
            · refine Or.inl ⟨q.1, q.2.1, fun j hj w => ?_⟩
              by_cases y : j = k.toNat
              · rw [y]
                exact fun cc => (hqx.2 cc) z
              · exact q.2.2 j (by omega) w
            · exact Or.inr q
          · rw [if_neg z] at hv e4
            have o4 : mOk M4 := by rw [e4]; exact mOk_UI h.1 ⟨by omega, by omega⟩
            have hg := gv_mark hG h (i := k.toNat) (by omega) c (hqx.1 z) e4 o4
            refine ⟨o4, ?_⟩
            rw [hv]
            refine ih (k + 1) 1 M4 _ _ (by omega) (by omega) hg (Or.inr ⟨rfl, ?_⟩)
            have hcs := cz_set (f := mI M3 (s + 36)) (g := mI M4 (s + 36)) (i := k.toNat) c (by rw [e4, mI_UI, if_pos ⟨rfl, rfl⟩]) (fun j hj => by rw [e4, mI_UI, if_neg (fun w => hj w.2)]) (mI M s 1).toNat (by omega)
            rcases hf with q | q
            · have := q.2.1; omega
            · have := q.2; omega
        · rcases hf with q | q
          · refine Or.inl ⟨q.1, q.2.1, fun j hj w => ?_⟩
            by_cases y : j = k.toNat
            · subst y
              exact absurd w c
            · exact q.2.2 j (by omega) w
          · exact Or.inr q
  suffices H : ∀ (n : Nat) (k : Int) (M1 : mM), mI M s 1 - k = n → 0 ≤ k → mOk M1 → FI (fun x => x = s + 36) M M1 → (∀ j : Nat, (j : Int) < k → mI M1 (s + 36) j = if mI M (s + 22) j = 3 then 1 else 0) → h_MS_grow_2 G (d + 1) s l k M1 (gvQ M s l) from
    H (mI M s 1).toNat 0 M (by omega) (by omega) hO FI.refl (fun j hj => by omega)
  intro n
  induction n with
  | zero =>
    intro k M1 hn hk o1 f1 hq
    have hV1 := hV.fi f1
    have es : mI M1 s = mI M s := f1.2.2.2.2.2.2 s (by omega)
    refine k_MS_grow_2 o1 hl ⟨by omega, by omega⟩ ?_
    rw [es]
    refine ⟨hV1.k0, fun _ => h47 _ M1 (fun _ => 0) 1 1 ⟨o1, f1, fun j hj => ?_⟩ (Nat.le_refl _) (Or.inr rfl), fun c => by omega⟩
    have e := hq j (by omega)
    by_cases z : mI M (s + 22) j = 3
    · rw [if_pos z] at e
      exact ⟨Or.inr e, fun _ => e, fun _ => ⟨Nat.zero_lt_one, Or.inl z⟩⟩
    · rw [if_neg z] at e
      exact ⟨Or.inl e, fun w => absurd w z, fun w => by omega⟩
  | succ n ih =>
    intro k M1 hn hk o1 f1 hq
    have hV1 := hV.fi f1
    have es : mI M1 s = mI M s := f1.2.2.2.2.2.2 s (by omega)
    have e22 : mI M1 (s + 22) = mI M (s + 22) := f1.2.2.2.2.2.2 _ (by omega)
    refine k_MS_grow_2 o1 hl ⟨by omega, by omega⟩ ?_
    rw [es, hV1.r4, hV1.r19, hV1.n22, hV1.n36, e22]
    refine ⟨hV1.k0, fun c => by omega, fun _ => ⟨hV1.k22, by omega, fun v hv => ⟨hV1.k36, by omega, fun M2 e2 => ?_⟩⟩⟩
    refine ih (k + 1) M2 (by omega) (by omega) (by rw [e2]; exact mOk_UI o1 ⟨by split at hv <;> omega, by split at hv <;> omega⟩) (f1.trans (by rw [e2]; exact FI.ui rfl)) (fun j hj => ?_)
    rw [e2, mI_UI]
    by_cases z : j = k.toNat
    · rw [if_pos ⟨rfl, z⟩, hv, z]
    · rw [if_neg (fun w => z w.2)]
      exact hq j (by omega)
end VS
end
