/-! The class's Solver: the unknown states, their weights. -/
section NBO
variable {G : mG} {d s g cn cc bc i k n c lo hi un : Nat} {M M0 M' M1 M2 M3 : mM}
/-- the unknown states -/
def Unk (M : mM) (s cn un : Nat) : Prop := mI M s 10 = ((un : Nat) : Int) ∧ un ≤ 40 ∧ Slo M s un ∧ ∀ i, i < un → ∃ k c lo hi : Nat, mI M (s + 125) i = ((k : Nat) : Int) ∧ k < cn ∧ mI M (s + 126) i = ((c : Nat) : Int) ∧ mI M (s + 122) k = ((lo : Nat) : Int) ∧ mI M (s + 123) k = ((hi : Nat) : Int) ∧ lo ≤ c ∧ c < hi
def Sun (s x : Nat) : Prop := x = s ∨ x = s + 124 ∨ x = s + 125 ∨ x = s + 126
def fuI (M0 : mM) (s g cn cc bc : Nat) (M : mM) : Prop := FI (Sun s) M0 M ∧ SG M s g cn cc bc ∧ LHs M s cn cc ∧ ∃ un, Unk M s cn un
def fuQ (M0 : mM) (s g cn cc bc : Nat) (x : Int) (M : mM) : Prop := (x = 0 ∨ x = 1) ∧ fuI M0 s g cn cc bc M
theorem sun_g (h : SG M s g cn cc bc) : ∀ i, i ≤ 9 → ¬ Sun s (g + i) := fun i hi u => by
  have := h.2.1.1.2
  unfold Sun at u
  omega
theorem s_fu63 {l1 l2 x : Int} (h1 : l1 = 0 ∨ l1 = 1) (h2 : 0 ≤ l2 ∧ l2 ≤ 512) (hk : k < cn) (hI : fuI M0 s g cn cc bc M) (hx : x = -1 ∨ ∃ lo hi c : Nat, mI M (s + 122) k = ((lo : Nat) : Int) ∧ mI M (s + 123) k = ((hi : Nat) : Int) ∧ x = ((c : Nat) : Int) ∧ lo ≤ c ∧ c < hi)
    (hQ : ∀ l1' M', (l1' = 0 ∨ l1' = 1) → fuI M0 s g cn cc bc M' → h_So_findUnknown_40 G d s l1' l2 ((k : Int) - 1) M' (fuQ M0 s g cn cc bc)) : h_So_findUnknown_63 G d s l1 l2 k x M (fuQ M0 s g cn cc bc) := by
  have hI0 := hI
  obtain ⟨F, hg, hL, un, ⟨u1, u2, u3, u4⟩⟩ := hI
  obtain ⟨o, ⟨⟨s0, gs⟩, ⟨-, -, -, -, -, -, -, r7, r8, r9, -⟩, ⟨-, -, -, -, k7, k8, k9, -⟩, ⟨-, -, -, -, n7, n8, n9, -⟩⟩, -, -, hT⟩ := id hg
  obtain ⟨hc1, hc2, hc3⟩ := hT.1
  have xi : i32 x := by
    rcases hx with e | ⟨lo, hi, c, e1, e2, e3, e4, e5⟩
    · rw [e]; exact ⟨by decide, by decide⟩
    · obtain ⟨lo', hi', f1, f2, f3, f4⟩ := hL k hk
      exact ⟨by omega, by omega⟩
  refine k_So_findUnknown_63 o (m_b32 h1) ⟨by omega, by omega⟩ ⟨by omega, by omega⟩ xi ⟨fun _ => by
    have := hQ l1 M h1 hI0
    rw [show ((k : Int) - 1) = (k : Int) + (-1) by omega] at this
    exact this, fun xn => ?_⟩
  obtain ⟨lo, hi, c, e1, e2, e3, e4, e5⟩ := hx.resolve_left xn
  obtain ⟨lo', hi', f1, f2, f3, f4⟩ := hL k hk
  rw [u1]
  refine ⟨s0, fun _ => ⟨Or.inl rfl, hI0⟩, fun ne => ?_⟩
  rw [r7, n7, Int.toNat_natCast]
  refine ⟨k7, ⟨by omega, by omega⟩, fun M41 e41 => ?_⟩
  have f41 : FI (fun z => z = s + 124) M M41 := by rw [e41]; exact FI.ui rfl
  rw [f41.1, f41.2.1, f41.2.2.1, r8, n8, f41.2.2.2.2.2.2 s (show ¬ s = s + 124 by omega), u1, Int.toNat_natCast]
  refine ⟨k8, ⟨by omega, by omega⟩, fun M45 e45 => ?_⟩
  have f45 : FI (fun z => z = s + 125) M41 M45 := by rw [e45]; exact FI.ui rfl
  rw [f45.1, f45.2.1, f45.2.2.1, f41.1, f41.2.1, f41.2.2.1, r9, n9, f45.2.2.2.2.2.2 s (show ¬ s = s + 125 by omega), f41.2.2.2.2.2.2 s (show ¬ s = s + 124 by omega), u1, Int.toNat_natCast]
  refine ⟨k9, ⟨by omega, by omega⟩, fun M49 e49 => ?_⟩
  have f49 : FI (fun z => z = s + 126) M45 M49 := by rw [e49]; exact FI.ui rfl
  rw [f49.2.2.2.2.2.2 s (show ¬ s = s + 126 by omega), f45.2.2.2.2.2.2 s (show ¬ s = s + 125 by omega), f41.2.2.2.2.2.2 s (show ¬ s = s + 124 by omega), u1]
  refine ⟨⟨by omega, by omega⟩, fun M52 e52 => ?_⟩
  have f52 : FI (fun z => z = s) M49 M52 := by rw [e52]; exact FI.ui rfl
  have ff : FI (Sun s) M M52 := (((f41.mono (fun _ u => Or.inr (Or.inl u))).trans (f45.mono (fun _ u => Or.inr (Or.inr (Or.inl u))))).trans (f49.mono (fun _ u => Or.inr (Or.inr (Or.inr u))))).trans (f52.mono (fun _ u => Or.inl u))
  have o52 : mOk M52 := by rw [e52]; exact mOk_UI (by rw [e49]; exact mOk_UI (by rw [e45]; exact mOk_UI (by rw [e41]; exact mOk_UI o ⟨by omega, by omega⟩) ⟨by omega, by omega⟩) xi) ⟨by omega, by omega⟩
  have i122 : mI M52 (s + 122) = mI M (s + 122) := ff.2.2.2.2.2.2 _ (fun u => by unfold Sun at u; omega)
  have i123 : mI M52 (s + 123) = mI M (s + 123) := ff.2.2.2.2.2.2 _ (fun u => by unfold Sun at u; omega)
  have i124 : ∀ j, mI M52 (s + 124) j = if j = k then ((un : Nat) : Int) else mI M (s + 124) j := fun j => by
    rw [f52.2.2.2.2.2.2 _ (show ¬ s + 124 = s by omega), f49.2.2.2.2.2.2 _ (show ¬ s + 124 = s + 126 by omega), f45.2.2.2.2.2.2 _ (show ¬ s + 124 = s + 125 by omega), mI_ui _ j e41]
    by_cases cj : j = k
    · rw [if_pos ⟨rfl, cj⟩, if_pos cj]
    · rw [if_neg (fun u => cj u.2), if_neg cj]
  have i125 : ∀ j, mI M52 (s + 125) j = if j = un then ((k : Nat) : Int) else mI M (s + 125) j := fun j => by
    rw [f52.2.2.2.2.2.2 _ (show ¬ s + 125 = s by omega), f49.2.2.2.2.2.2 _ (show ¬ s + 125 = s + 126 by omega), mI_ui _ j e45]
    by_cases cj : j = un
    · rw [if_pos ⟨rfl, cj⟩, if_pos cj]
    · rw [if_neg (fun u => cj u.2), if_neg cj, f41.2.2.2.2.2.2 _ (show ¬ s + 125 = s + 124 by omega)]
  have i126 : ∀ j, mI M52 (s + 126) j = if j = un then x else mI M (s + 126) j := fun j => by
    rw [f52.2.2.2.2.2.2 _ (show ¬ s + 126 = s by omega), mI_ui _ j e49]
    by_cases cj : j = un
    · rw [if_pos ⟨rfl, cj⟩, if_pos cj]
    · rw [if_neg (fun u => cj u.2), if_neg cj, f45.2.2.2.2.2.2 _ (show ¬ s + 126 = s + 125 by omega), f41.2.2.2.2.2.2 _ (show ¬ s + 126 = s + 124 by omega)]
  have := hQ 1 M52 (Or.inr rfl) ⟨F.trans ff, hg.fi ff o52 (sun_g hg), fun j hj => by rw [i122, i123]; exact hL j hj, un + 1, by rw [mI_ui s 10 e52, if_pos ⟨rfl, rfl⟩]; omega, by omega, fun j hj => ?_, fun j hj => ?_⟩
  · rw [show ((k : Int) - 1) = (k : Int) + (-1) by omega] at this
    exact this
  · rw [i124]
    by_cases cj : j = k
    · rw [if_pos cj]; exact Or.inr ⟨by omega, by omega⟩
    · rw [if_neg cj]
      rcases u3 j hj with e | e
      · exact Or.inl e
      · exact Or.inr ⟨e.1, by omega⟩
  · rw [i125, i126, i122, i123]
    by_cases cj : j = un
    · rw [if_pos cj, if_pos cj]
      exact ⟨k, c, lo, hi, rfl, hk, e3, e1, e2, e4, e5⟩
    · rw [if_neg cj, if_neg cj]
      exact u4 j (by omega)
theorem s_fu40 {l2 : Int} (h2 : 0 ≤ l2 ∧ l2 ≤ 512) (hQ : ∀ l1' M', (l1' = 0 ∨ l1' = 1) → fuI M0 s g cn cc bc M' → h_So_findUnknown_17 G (d + 1) s l1' (l2 + 1) M' (fuQ M0 s g cn cc bc)) : ∀ (k : Nat) (l1 : Int) (M : mM), k ≤ cn → (l1 = 0 ∨ l1 = 1) → fuI M0 s g cn cc bc M → h_So_findUnknown_40 G (d + 1) s l1 l2 ((k : Int) - 1) M (fuQ M0 s g cn cc bc) := by
  intro k
  induction k with
  | zero =>
    intro l1 M hk h1 hI
    exact k_So_findUnknown_40 hI.2.1.1 (m_b32 h1) ⟨by omega, by omega⟩ ⟨by omega, by omega⟩ ⟨fun _ => hQ l1 M h1 hI, fun u => absurd (by omega) u⟩
  | succ k ih =>
    intro l1 M hk h1 hI
    obtain ⟨F, hg, hL, un, ⟨u1, u2, u3, u4⟩⟩ := id hI
    obtain ⟨o, ⟨⟨s0, gs⟩, ⟨-, -, -, -, -, -, -, r7, -⟩, ⟨-, -, -, -, k7, -⟩, ⟨-, -, -, -, n7, -⟩⟩, -, -, hT⟩ := id hg
    obtain ⟨hc1, hc2, hc3⟩ := hT.1
    rw [show ((k + 1 : Nat) : Int) - 1 = ((k : Nat) : Int) by omega]
    refine k_So_findUnknown_40 o (m_b32 h1) ⟨by omega, by omega⟩ ⟨by omega, by omega⟩ ⟨fun u => absurd u (by omega), fun _ => ?_⟩
    rw [r7, n7, Int.toNat_natCast]
    refine ⟨s0, k7, ⟨by omega, by omega⟩, fun _ => (s_So_wayFrom (d := d) hg hL (show k < cn by omega)).mono (fun x M' q => ?_), fun _ => s_fu63 h1 h2 (by omega) hI (Or.inl rfl) (fun l1' M' h1' hI' => ih l1' M' (by omega) h1' hI')⟩
    obtain ⟨e, hx⟩ := q
    rw [e]
    have xi : i32 x := by
      rcases hx with e | ⟨lo, hi, c, e1, e2, e3, e4, e5⟩
      · rw [e]; exact ⟨by decide, by decide⟩
      · obtain ⟨lo', hi', f1, f2, f3, f4⟩ := hL k (by omega)
        exact ⟨by omega, by omega⟩
    exact ⟨xi, o, s_fu63 h1 h2 (by omega) hI hx (fun l1' M' h1' hI' => ih l1' M' (by omega) h1' hI')⟩
theorem s_So_findUnknown (h : SG M s g cn cc bc) (hL : LHs M s cn cc) : Ci G y_So_findUnknown (d + 2) [vr s] M (fuQ M s g cn cc bc) := by
  obtain ⟨o, ⟨⟨s0, gs⟩, ⟨-, -, -, -, -, -, -, r7, -⟩, ⟨-, -, -, -, k7, -⟩, ⟨-, -, -, -, n7, -⟩⟩, -, -, hT⟩ := id h
  refine k_So_findUnknown o ⟨s0, fun M2 e2 => ?_⟩
  have f2 : FI (fun z => z = s) M M2 := by rw [e2]; exact FI.ui rfl
  have o2 : mOk M2 := by rw [e2]; exact mOk_UI o ⟨by decide, by decide⟩
  rw [f2.2.2.1, r7]
  refine (s_JA_fill (d := d + 1) o2 (by rw [f2.1]; exact k7) (by rw [f2.2.1, n7]; decide) ⟨by decide, by decide⟩).mono (fun M4 q => ?_)
  obtain ⟨o4, f4, i4⟩ := q
  rw [f2.2.1, n7] at i4
  have ff : FI (Sun s) M M4 := (f2.mono (fun _ u => Or.inl u)).trans (f4.mono (fun _ u => Or.inr (Or.inl u)))
  have I4 : fuI M s g cn cc bc M4 := ⟨ff, h.fi ff o4 (sun_g h), fun j hj => by rw [ff.2.2.2.2.2.2 (s + 122) (fun u => by unfold Sun at u; omega), ff.2.2.2.2.2.2 (s + 123) (fun u => by unfold Sun at u; omega)]; exact hL j hj, 0, by rw [f4.2.2.2.2.2.2 s (show ¬ s = s + 124 by omega), mI_ui s 10 e2, if_pos ⟨rfl, rfl⟩]; rfl, by decide, fun k hk => Or.inl (i4 k hk), fun i hi => absurd hi (by omega)⟩
  refine ⟨o4, ?_⟩
  suffices HH : ∀ (t sw : Nat) (l1 : Int) (M1 : mM), 513 ≤ sw + t → sw ≤ 513 → (l1 = 0 ∨ l1 = 1) → fuI M s g cn cc bc M1 → h_So_findUnknown_17 G (d + 1) s l1 sw M1 (fuQ M s g cn cc bc) from HH 513 0 1 M4 (by omega) (by omega) (Or.inr rfl) I4
  intro t
  induction t with
  | zero =>
    intro sw l1 M1 h1 h2 hl hI
    exact k_So_findUnknown_17 hI.2.1.1 (m_b32 hl) ⟨by omega, by omega⟩ ⟨fun _ => ⟨Or.inr rfl, hI⟩, fun u => absurd (Or.inl (by omega)) u⟩
  | succ t ih =>
    intro sw l1 M1 h1 h2 hl hI
    refine k_So_findUnknown_17 hI.2.1.1 (m_b32 hl) ⟨by omega, by omega⟩ ⟨fun _ => ⟨Or.inr rfl, hI⟩, fun u => ?_⟩
    obtain ⟨-, ⟨⟨s0', -⟩, ⟨-, -, -, r3, -⟩, -⟩, ⟨g0, -⟩, -, hT'⟩ := id hI.2.1
    rw [r3, hT'.2.2.2]
    have sl : sw ≤ 512 := by
      by_cases c : (512 : Int) < sw
      · exact absurd (Or.inl c) u
      · omega
    refine ⟨s0', g0, s_fu40 ⟨by omega, by omega⟩ (fun l1' M' h1' hI' => ?_) cn 0 M1 (Nat.le_refl _) (Or.inl rfl) hI⟩
    rw [show ((sw : Int) + 1) = ((sw + 1 : Nat) : Int) by omega]
    exact ih (sw + 1) l1' M' (by omega) (by omega) h1' hI'
end NBO
