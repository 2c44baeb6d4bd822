/-! The reference's solver: which states come to the end, in words of sets. -/
def exP (P : Nat → Prop) (n : Nat) : Prop := ∃ j, j < n ∧ P j
def alP (P : Nat → Prop) (n : Nat) : Prop := ∀ j, j < n → P j
theorem exP_succ {P : Nat → Prop} {n : Nat} : exP P (n + 1) ↔ exP P n ∨ P n := by
  constructor
  · rintro ⟨j, h1, h2⟩
    by_cases c : j = n
    · subst c; exact Or.inr h2
    · exact Or.inl ⟨j, by omega, h2⟩
  · rintro (⟨j, h1, h2⟩ | h)
    · exact ⟨j, by omega, h2⟩
    · exact ⟨n, by omega, h⟩
theorem alP_succ {P : Nat → Prop} {n : Nat} : alP P (n + 1) ↔ alP P n ∧ P n := by
  constructor
  · intro h
    exact ⟨fun j hj => h j (by omega), h n (by omega)⟩
  · rintro ⟨h1, h2⟩ j hj
    by_cases c : j = n
    · subst c; exact h2
    · exact h1 j (by omega)
theorem comesQ.mono {T T' : Nat → Prop} {M : mM} {s i : Nat} {l : Int} (hG : GW M s) (hi : (i : Int) < mI M s 1) (h : ∀ x : Nat, (x : Int) < mI M s 1 → T x → T' x) (c : comesQ T M s i l) : comesQ T' M s i l := by
  have hl : ∀ k : Nat, (k : Int) < mny M s i → leadQ T M s i k → leadQ T' M s i k := by
    rintro k hk ⟨b, b1, b2, b3⟩
    have h1 := hG.cmd hi
    unfold mny at hk
    have h2 := hG.brn (c := (mI M (s + 23) i).toNat + k) (by omega)
    have h3 := hG.2.2.2.2.2.2.2.2.2.2 b (by omega)
    exact ⟨b, b1, b2, h _ (by omega) b3⟩
  rcases c with ⟨c1, k, c2, c3, c4⟩ | ⟨c1, c2, c3⟩
  · exact Or.inl ⟨c1, k, c2, c3, hl k c2 c4⟩
  · exact Or.inr ⟨c1, c2, fun k hk hu => hl k hk (c3 k hk hu)⟩
theorem comesQ.out {S T : Nat → Prop} {M M' : mM} {s i : Nat} {l : Int} (f : FI S M M') (h0 : ¬ S s) (h1 : ∀ x, s + 22 ≤ x → x ≤ s + 35 → ¬ S x) : comesQ T M' s i l ↔ comesQ T M s i l := by
  obtain ⟨-, -, -, -, -, -, f⟩ := f
  unfold comesQ useP mayP leadQ mny
  rw [f s h0, f (s + 22) (h1 _ (by omega) (by omega)), f (s + 23) (h1 _ (by omega) (by omega)), f (s + 25) (h1 _ (by omega) (by omega)), f (s + 26) (h1 _ (by omega) (by omega)), f (s + 32) (h1 _ (by omega) (by omega)), f (s + 35) (h1 _ (by omega) (by omega))]
section VS
variable {G : mG} {d s : Nat} {M : mM}
theorem s_MS_comes {i : Nat} {l : Int} (hl : i32 l) (hO : mOk M) (hV : Vk M s) (hG : GW M s) (hi : (i : Int) < mI M s 1) : Ci G y_MS_comes (d + 1) [vr s, vi i, vi l] M (fun x M' => M' = M ∧ (x = 0 ∨ x = 1) ∧ (x ≠ 0 ↔ comesQ (mkd M s) M s i l)) := by
  have h2 := hG.2.1
  have h3 := hG.2.2.1
  have hc := hG.cmd hi
  have hm0 : 0 ≤ mny M s i ∧ mny M s i ≤ 4200 := by unfold mny; omega
  refine k_MS_comes hO ⟨by omega, by omega⟩ hl ⟨hV.k0, (s_MS_many hO hV hG hi).mono (fun x M1 h1 => ?_)⟩
  obtain ⟨e1, hx⟩ := h1
  subst e1
  refine ⟨⟨by omega, by omega⟩, hO, fun v hv => ?_⟩
  suffices H : ∀ (n k : Nat) (e a : Int), mny M1 s i - k = n → (e = 0 ∨ e = 1) → (a = 0 ∨ a = 1) → (e ≠ 0 ↔ exP (fun k => useP M1 s i k l ∧ leadQ (mkd M1 s) M1 s i k) k) → (a ≠ 0 ↔ (0 < mny M1 s i ∧ alP (fun k => useP M1 s i k l → leadQ (mkd M1 s) M1 s i k) k)) → h_MS_comes_20 G d s i l e a k M1 (fun x M' => M' = M1 ∧ (x = 0 ∨ x = 1) ∧ (x ≠ 0 ↔ comesQ (mkd M1 s) M1 s i l)) by
    refine H (mny M1 s i).toNat 0 0 v (by omega) (Or.inl rfl) (by split at hv <;> omega) ⟨fun q => absurd rfl q, fun ⟨j, j1, _⟩ => by omega⟩ ?_
    by_cases c : x ≤ 0
    · rw [if_pos c] at hv
      exact ⟨fun q => absurd hv q, fun q => by have := q.1; omega⟩
    · rw [if_neg c] at hv
      exact ⟨fun _ => ⟨by omega, fun j hj => by omega⟩, fun _ => by omega⟩
  clear hv hx v x
  intro n
  induction n with
  | zero =>
    intro k e a hn he ha hqe hqa
    refine k_MS_comes_20 hO ⟨by omega, by omega⟩ hl ⟨by omega, by omega⟩ ⟨by omega, by omega⟩ ⟨by omega, by omega⟩ ⟨hV.k0, (s_MS_many hO hV hG hi).mono (fun x M2 h2' => ?_)⟩
    obtain ⟨e2, hx⟩ := h2'
    subst e2
    refine ⟨⟨by omega, by omega⟩, hO, fun _ => ?_, fun c => by omega⟩
    rw [hV.r4, hV.n22, Int.toNat_natCast]
    have hk : k = (mny M2 s i).toNat := by omega
    refine ⟨hV.k0, hV.k22, by omega, fun _ => by omega, fun v hv => ?_⟩
    have hv01 : v = 0 ∨ v = 1 := by split at hv <;> (try split at hv) <;> (try split at hv) <;> omega
    refine ⟨hv01, rfl, hv01, ?_⟩
    unfold comesQ
    by_cases c1 : mI M2 (s + 22) i = 1
    · rw [if_pos c1] at hv
      rw [hv, hqe]
      constructor
      · rintro ⟨j, j1, j2, j3⟩
        exact Or.inl ⟨c1, j, by omega, j2, j3⟩
      · rintro (⟨_, j, j1, j2, j3⟩ | ⟨q, -⟩)
        · exact ⟨j, by omega, j2, j3⟩
        · omega
    · rw [if_neg c1] at hv
      by_cases c2 : mI M2 (s + 22) i = 2
      · rw [if_pos c2] at hv
        have hva : v ≠ 0 ↔ a ≠ 0 := by
          by_cases z : a = 0
          · rw [if_pos z] at hv; exact ⟨fun q => absurd hv q, fun q => absurd z q⟩
          · rw [if_neg z] at hv; exact ⟨fun _ => z, fun _ => by omega⟩
        rw [hva, hqa]
        constructor
        · rintro ⟨p1, p2⟩
          exact Or.inr ⟨c2, p1, fun j hj => p2 j (by omega)⟩
        · rintro (⟨q, -⟩ | ⟨_, p1, p2⟩)
          · exact absurd q c1
          · exact ⟨p1, fun j hj => p2 j (by omega)⟩
      · rw [if_neg c2] at hv
        constructor
        · intro q; exact absurd hv q
        · rintro (⟨q, -⟩ | ⟨q, -⟩)
          · exact absurd q c1
          · exact absurd q c2
  | succ n ih =>
    intro k e a hn he ha hqe hqa
    have hkm : (k : Int) < mny M1 s i := by omega
    have hk9 : (k : Int) < 100000 := by omega
    refine k_MS_comes_20 hO ⟨by omega, by omega⟩ hl ⟨by omega, by omega⟩ ⟨by omega, by omega⟩ ⟨by omega, by omega⟩ ⟨hV.k0, (s_MS_many hO hV hG hi).mono (fun x M2 h2' => ?_)⟩
    obtain ⟨e2, hx⟩ := h2'
    subst e2
    have h92 : ∀ f g : Int, (f = 0 ∨ f = 1) → (g = 0 ∨ g = 1) → (f ≠ 0 ↔ useP M2 s i k l) → (g ≠ 0 ↔ (useP M2 s i k l ∧ leadQ (mkd M2 s) M2 s i k)) → h_MS_comes_92 G d s i l e a k f g M2 (fun x M' => M' = M2 ∧ (x = 0 ∨ x = 1) ∧ (x ≠ 0 ↔ comesQ (mkd M2 s) M2 s i l)) := by
      intro f g hf hg hqf hqg
      refine k_MS_comes_92 hO ⟨by omega, by omega⟩ hl ⟨by omega, by omega⟩ ⟨by omega, by omega⟩ ⟨by omega, by omega⟩ ⟨by omega, by omega⟩ ⟨by omega, by omega⟩ (fun v hv w hw => ?_)
      refine ih (k + 1) v w (by omega) (by split at hv <;> omega) (by split at hw <;> omega) ?_ ?_
      · rw [exP_succ, ← hqe, ← hqg]
        by_cases c : e = 0 ∧ g = 0
        · rw [if_pos c] at hv
          exact ⟨fun q => absurd hv q, fun q => by rcases q with q | q; exact absurd c.1 q; exact absurd c.2 q⟩
        · rw [if_neg c] at hv
          refine ⟨fun _ => ?_, fun _ => by omega⟩
          by_cases z : e = 0
          · exact Or.inr (fun q => c ⟨z, q⟩)
          · exact Or.inl z
      · rw [alP_succ, ← and_assoc, ← hqa]
        by_cases c : a = 0 ∨ (¬ f = 0 ∧ g = 0)
        · rw [if_pos c] at hw
          refine ⟨fun q => absurd hw q, fun q => ?_⟩
          rcases c with c | c
          · exact absurd c q.1
          · exact absurd c.2 (hqg.2 ⟨hqf.1 c.1, q.2 (hqf.1 c.1)⟩)
        · rw [if_neg c] at hw
          refine ⟨fun _ => ⟨fun q => c (Or.inl q), fun u => ?_⟩, fun _ => by omega⟩
          have hg0 : g ≠ 0 := fun q => c (Or.inr ⟨hqf.2 u, q⟩)
          exact (hqg.1 hg0).2
    have h70 : ∀ f : Int, (f = 0 ∨ f = 1) → (f ≠ 0 ↔ useP M2 s i k l) → h_MS_comes_70 G d s i l e a k f M2 (fun x M' => M' = M2 ∧ (x = 0 ∨ x = 1) ∧ (x ≠ 0 ↔ comesQ (mkd M2 s) M2 s i l)) := by
      intro f hf hqf
      refine k_MS_comes_70 hO ⟨by omega, by omega⟩ hl ⟨by omega, by omega⟩ ⟨by omega, by omega⟩ ⟨by omega, by omega⟩ ⟨by omega, by omega⟩ ⟨fun c => ?_, fun c => ⟨hV.k0, (s_MS_leadsIn hO hV hG hi hkm).mono (fun y M3 h3' => ?_)⟩⟩
      · refine h92 f 0 hf (Or.inl rfl) hqf ⟨fun q => absurd rfl q, fun q => absurd c (hqf.2 q.1)⟩
      · obtain ⟨e3, hy, hqy⟩ := h3'
        subst e3
        refine ⟨⟨by omega, by omega⟩, hO, fun z => ?_, fun z => ?_⟩
        · exact h92 f 0 hf (Or.inl rfl) hqf ⟨fun q => absurd rfl q, fun q => absurd z (hqy.2 q.2)⟩
        · exact h92 f 1 hf (Or.inr rfl) hqf ⟨fun _ => ⟨hqf.1 c, hqy.1 z⟩, fun _ => by omega⟩
    rw [hV.r4, hV.r18, hV.n22, hV.n35, Int.toNat_natCast]
    refine ⟨⟨by omega, by omega⟩, hO, fun c => by omega, fun _ => ⟨hV.k0, hV.k22, by omega, fun c => ?_, fun c => ⟨hV.k35, by omega, fun q => ?_, fun q => ?_⟩⟩⟩
    · refine (s_MS_may hk9 hO hV hG hi).mono (fun y M3 h3' => ?_)
      obtain ⟨e3, hy, hqy⟩ := h3'
      subst e3
      refine ⟨⟨by omega, by omega⟩, hO, h70 y hy ?_⟩
      rw [hqy]
      unfold useP
      exact ⟨fun q => Or.inl ⟨c, q⟩, fun q => by rcases q with q | q; exact q.2; exact absurd c q.1⟩
    · refine h70 1 (Or.inr rfl) ⟨fun _ => Or.inr ⟨c, q⟩, fun _ => by omega⟩
    · refine h70 0 (Or.inl rfl) ⟨fun w => absurd rfl w, fun w => ?_⟩
      rcases w with w | w
      · exact absurd w.1 c
      · exact absurd w.2 q
end VS
