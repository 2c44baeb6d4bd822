/-! The class's Solver: the unknown states exactly. -/
section NBZ
variable {G : mG} {d s g cn cc bc i k n c lo hi un : Nat} {M M0 M' M1 M2 M3 : mM}
/-- nothing from k on comes on -/
def noM (M : mM) (s g cn k : Nat) : Prop := ∀ j, k ≤ j → j < cn → mI M (s + 124) j = -1 → ∀ lo hi : Nat, mI M (s + 122) j = ((lo : Nat) : Int) → mI M (s + 123) j = ((hi : Nat) : Int) → ¬ coC M s g j lo hi
def fuX (M0 : mM) (s g cn cc bc un : Nat) (M : mM) : Prop := FI (Sun s) M0 M ∧ SG M s g cn cc bc ∧ LHs M s cn cc ∧ Unk M s cn un ∧ mkB M s g cn ∧ smU M s cn un
/-- found all, or one too many -/
def fuR (M0 : mM) (s g cn cc bc : Nat) (x : Int) (M : mM) : Prop := ∃ un, fuX M0 s g cn cc bc un M ∧ ((x = 1 ∧ noM M s g cn 0) ∨ (x = 0 ∧ un = 40 ∧ ∃ k, k < cn ∧ mI M (s + 124) k = -1 ∧ ∃ lo hi : Nat, mI M (s + 122) k = ((lo : Nat) : Int) ∧ mI M (s + 123) k = ((hi : Nat) : Int) ∧ coC M s g k lo hi))
theorem x_fu63 {l1 l2 x : Int} (h1 : l1 = 0 ∨ l1 = 1) (h2 : 0 ≤ l2 ∧ l2 ≤ 512) (hk : k < cn) (hI : fuX M0 s g cn cc bc un M) (hx : x = -1 ∨ (mI M (s + 124) k = -1 ∧ ∃ lo hi c : Nat, (mI M (s + 122) k = ((lo : Nat) : Int) ∧ mI M (s + 123) k = ((hi : Nat) : Int)) ∧ coC M s g k lo hi ∧ x = ((c : Nat) : Int) ∧ lo ≤ c ∧ c < hi))
    (hQ0 : x = -1 → h_So_findUnknown_40 G d s l1 l2 ((k : Int) - 1) M (fuR M0 s g cn cc bc)) (hQ1 : ∀ M', fuX M0 s g cn cc bc (un + 1) M' → h_So_findUnknown_40 G d s 1 l2 ((k : Int) - 1) M' (fuR M0 s g cn cc bc)) : h_So_findUnknown_63 G d s l1 l2 k x M (fuR M0 s g cn cc bc) := by
  have hI0 := hI
  obtain ⟨F, hg, hL, ⟨u1, u2, u3, u4⟩, hb, hm⟩ := hI
  obtain ⟨o, ⟨⟨s0, gs⟩, ⟨-, -, -, -, -, -, -, r7, r8, r9, -⟩, ⟨-, -, -, -, k7, k8, k9, -⟩, ⟨-, -, -, -, n7, n8, n9, -⟩⟩, -, -, hT⟩ := id hg
  obtain ⟨hc1, hc2, hc3⟩ := hT.1
  have xi : i32 x := by
    rcases hx with e | ⟨-, lo, hi, c, ⟨e1, e2⟩, -, e3, e4, e5⟩
    · rw [e]; exact ⟨by decide, by decide⟩
    · obtain ⟨lo', hi', f1, f2, f3, f4⟩ := hL k hk
      exact ⟨by omega, by omega⟩
  refine k_So_findUnknown_63 o (m_b32 h1) ⟨by omega, by omega⟩ ⟨by omega, by omega⟩ xi ⟨fun z => by
    have := hQ0 z
    rw [show ((k : Int) - 1) = (k : Int) + (-1) by omega] at this
    exact this, fun xn => ?_⟩
  obtain ⟨k0, lo, hi, c, ⟨e1, e2⟩, hco, e3, e4, e5⟩ := hx.resolve_left xn
  obtain ⟨lo', hi', f1, f2, f3, f4⟩ := hL k hk
  rw [u1]
  refine ⟨s0, fun z => ⟨un, hI0, Or.inr ⟨rfl, by omega, k, hk, k0, lo, hi, e1, e2, hco⟩⟩, fun ne => ?_⟩
  rw [r7, n7, Int.toNat_natCast]
  refine ⟨k7, ⟨by omega, by omega⟩, fun M41 e41 => ?_⟩
  have f41 : FI (fun z => z = s + 124) M M41 := by rw [e41]; exact FI.ui rfl
  rw [f41.1, f41.2.1, f41.2.2.1, r8, n8, f41.2.2.2.2.2.2 s (show ¬ s = s + 124 by omega), u1, Int.toNat_natCast]
  refine ⟨k8, ⟨by omega, by omega⟩, fun M45 e45 => ?_⟩
  have f45 : FI (fun z => z = s + 125) M41 M45 := by rw [e45]; exact FI.ui rfl
  rw [f45.1, f45.2.1, f45.2.2.1, f41.1, f41.2.1, f41.2.2.1, r9, n9, f45.2.2.2.2.2.2 s (show ¬ s = s + 125 by omega), f41.2.2.2.2.2.2 s (show ¬ s = s + 124 by omega), u1, Int.toNat_natCast]
  refine ⟨k9, ⟨by omega, by omega⟩, fun M49 e49 => ?_⟩
  have f49 : FI (fun z => z = s + 126) M45 M49 := by rw [e49]; exact FI.ui rfl
  rw [f49.2.2.2.2.2.2 s (show ¬ s = s + 126 by omega), f45.2.2.2.2.2.2 s (show ¬ s = s + 125 by omega), f41.2.2.2.2.2.2 s (show ¬ s = s + 124 by omega), u1]
  refine ⟨⟨by omega, by omega⟩, fun M52 e52 => ?_⟩
  have f52 : FI (fun z => z = s) M49 M52 := by rw [e52]; exact FI.ui rfl
  have ff : FI (Sun s) M M52 := (((f41.mono (fun _ u => Or.inr (Or.inl u))).trans (f45.mono (fun _ u => Or.inr (Or.inr (Or.inl u))))).trans (f49.mono (fun _ u => Or.inr (Or.inr (Or.inr u))))).trans (f52.mono (fun _ u => Or.inl u))
  have o52 : mOk M52 := by rw [e52]; exact mOk_UI (by rw [e49]; exact mOk_UI (by rw [e45]; exact mOk_UI (by rw [e41]; exact mOk_UI o ⟨by omega, by omega⟩) ⟨by omega, by omega⟩) xi) ⟨by omega, by omega⟩
  have i122 : mI M52 (s + 122) = mI M (s + 122) := ff.2.2.2.2.2.2 _ (fun u => by unfold Sun at u; omega)
  have i123 : mI M52 (s + 123) = mI M (s + 123) := ff.2.2.2.2.2.2 _ (fun u => by unfold Sun at u; omega)
  have i124 : ∀ j, mI M52 (s + 124) j = if j = k then ((un : Nat) : Int) else mI M (s + 124) j := fun j => by
    rw [f52.2.2.2.2.2.2 _ (show ¬ s + 124 = s by omega), f49.2.2.2.2.2.2 _ (show ¬ s + 124 = s + 126 by omega), f45.2.2.2.2.2.2 _ (show ¬ s + 124 = s + 125 by omega), mI_ui _ j e41]
    by_cases cj : j = k
    · rw [if_pos ⟨rfl, cj⟩, if_pos cj]
    · rw [if_neg (fun u => cj u.2), if_neg cj]
  have i125 : ∀ j, mI M52 (s + 125) j = if j = un then ((k : Nat) : Int) else mI M (s + 125) j := fun j => by
    rw [f52.2.2.2.2.2.2 _ (show ¬ s + 125 = s by omega), f49.2.2.2.2.2.2 _ (show ¬ s + 125 = s + 126 by omega), mI_ui _ j e45]
    by_cases cj : j = un
    · rw [if_pos ⟨rfl, cj⟩, if_pos cj]
    · rw [if_neg (fun u => cj u.2), if_neg cj, f41.2.2.2.2.2.2 _ (show ¬ s + 125 = s + 124 by omega)]
  have i126 : ∀ j, mI M52 (s + 126) j = if j = un then x else mI M (s + 126) j := fun j => by
    rw [f52.2.2.2.2.2.2 _ (show ¬ s + 126 = s by omega), mI_ui _ j e49]
    by_cases cj : j = un
    · rw [if_pos ⟨rfl, cj⟩, if_pos cj]
    · rw [if_neg (fun u => cj u.2), if_neg cj, f45.2.2.2.2.2.2 _ (show ¬ s + 126 = s + 125 by omega), f41.2.2.2.2.2.2 _ (show ¬ s + 126 = s + 124 by omega)]
  obtain ⟨hb', hm'⟩ := mk_step (M' := M52) hT u3 hb hm hk k0 ⟨e1, e2⟩ (by omega) hco (fun i hi => ff.2.2.2.2.2.2 _ (sun_g hg i hi)) i122 i123 i124 i125
  have := hQ1 M52 ⟨F.trans ff, hg.fi ff o52 (sun_g hg), fun j hj => by rw [i122, i123]; exact hL j hj, ⟨by rw [mI_ui s 10 e52, if_pos ⟨rfl, rfl⟩]; omega, by omega, fun j hj => ?_, fun j hj => ?_⟩, hb', hm'⟩
  · rw [show ((k : Int) - 1) = (k : Int) + (-1) by omega] at this
    exact this
  · rw [i124]
    by_cases cj : j = k
    · rw [if_pos cj]; exact Or.inr ⟨by omega, by omega⟩
    · rw [if_neg cj]
      rcases u3 j hj with e | e
      · exact Or.inl e
      · exact Or.inr ⟨e.1, by omega⟩
  · rw [i125, i126, i122, i123]
    by_cases cj : j = un
    · rw [if_pos cj, if_pos cj]
      exact ⟨k, c, lo, hi, rfl, hk, e3, e1, e2, e4, e5⟩
    · rw [if_neg cj, if_neg cj]
      exact u4 j (by omega)
theorem x_fu40 {l2 : Int} {u0 : Nat} (h2 : 0 ≤ l2 ∧ l2 ≤ 512) (hQ : ∀ (l1' : Int) (un : Nat) (M' : mM), fuX M0 s g cn cc bc un M' → ((l1' = 0 ∧ noM M' s g cn 0) ∨ (l1' = 1 ∧ u0 < un)) → h_So_findUnknown_17 G (d + 1) s l1' (l2 + 1) M' (fuR M0 s g cn cc bc)) : ∀ (k : Nat) (l1 : Int) (un : Nat) (M : mM), k ≤ cn → u0 ≤ un → ((l1 = 0 ∧ noM M s g cn k) ∨ (l1 = 1 ∧ u0 < un)) → fuX M0 s g cn cc bc un M → h_So_findUnknown_40 G (d + 1) s l1 l2 ((k : Int) - 1) M (fuR M0 s g cn cc bc) := by
  intro k
  induction k with
  | zero =>
    intro l1 un M hk hu h1 hI
    exact k_So_findUnknown_40 hI.2.1.1 (m_b32 (by omega)) ⟨by omega, by omega⟩ ⟨by omega, by omega⟩ ⟨fun _ => hQ l1 un M hI h1, fun u => absurd (by omega) u⟩
  | succ k ih =>
    intro l1 un M hk hu h1 hI
    obtain ⟨F, hg, hL, ⟨u1, u2, u3, u4⟩, hb, hm⟩ := id hI
    obtain ⟨o, ⟨⟨s0, gs⟩, ⟨-, -, -, -, -, -, -, r7, -⟩, ⟨-, -, -, -, k7, -⟩, ⟨-, -, -, -, n7, -⟩⟩, -, -, hT⟩ := id hg
    obtain ⟨hc1, hc2, hc3⟩ := hT.1
    have hl : l1 = 0 ∨ l1 = 1 := by omega
    rw [show ((k + 1 : Nat) : Int) - 1 = ((k : Nat) : Int) by omega]
    refine k_So_findUnknown_40 o (m_b32 hl) ⟨by omega, by omega⟩ ⟨by omega, by omega⟩ ⟨fun u => absurd u (by omega), fun _ => ?_⟩
    have ext : (mI M (s + 124) k = -1 → ∀ lo hi : Nat, mI M (s + 122) k = ((lo : Nat) : Int) → mI M (s + 123) k = ((hi : Nat) : Int) → ¬ coC M s g k lo hi) → ((l1 = 0 ∧ noM M s g cn k) ∨ (l1 = 1 ∧ u0 < un)) := fun z => by
      rcases h1 with ⟨a1, a2⟩ | a1
      · refine Or.inl ⟨a1, fun j j1 j2 j3 lo hi j4 j5 => ?_⟩
        by_cases c9 : j = k
        · subst c9
          exact z j3 lo hi j4 j5
        · exact a2 j (by omega) j2 j3 lo hi j4 j5
      · exact Or.inr a1
    rw [r7, n7, Int.toNat_natCast]
    refine ⟨s0, k7, ⟨by omega, by omega⟩, fun z => (x_So_wayFrom (d := d) hg hL (show k < cn by omega)).mono (fun x M' q => ?_), fun z => x_fu63 hl h2 (by omega) hI (Or.inl rfl) (fun _ => ih l1 un M (by omega) hu (ext (fun w => absurd w z)) hI) (fun M' hI' => ih 1 (un + 1) M' (by omega) (by omega) (Or.inr ⟨rfl, by omega⟩) hI')⟩
    obtain ⟨e, lo, hi, ⟨e1, e2⟩, hx⟩ := q
    rw [e]
    obtain ⟨lo', hi', f1, f2, f3, f4⟩ := hL k (by omega)
    have xi : i32 x := by
      rcases hx with ⟨e, -⟩ | ⟨-, c, e3, e4, e5⟩
      · rw [e]; exact ⟨by decide, by decide⟩
      · exact ⟨by omega, by omega⟩
    refine ⟨xi, o, x_fu63 hl h2 (by omega) hI ?_ (fun xe => ih l1 un M (by omega) hu (ext (fun _ lo2 hi2 a1 a2 => ?_)) hI) (fun M' hI' => ih 1 (un + 1) M' (by omega) (by omega) (Or.inr ⟨rfl, by omega⟩) hI')⟩
    · rcases hx with ⟨y, -⟩ | ⟨y, c, e3, e4, e5⟩
      · exact Or.inl y
      · exact Or.inr ⟨z, lo, hi, c, ⟨e1, e2⟩, y, e3, e4, e5⟩
    · have el : lo2 = lo := by rw [e1] at a1; omega
      have eh : hi2 = hi := by rw [e2] at a2; omega
      subst el
      subst eh
      rcases hx with ⟨-, y⟩ | ⟨-, c, e3, -⟩
      · exact y
      · omega
theorem x_So_findUnknown (h : SG M s g cn cc bc) (hL : LHs M s cn cc) : Ci G y_So_findUnknown (d + 2) [vr s] M (fuR M s g cn cc bc) := by
  obtain ⟨o, ⟨⟨s0, gs⟩, ⟨-, -, -, -, -, -, -, r7, -⟩, ⟨-, -, -, -, k7, -⟩, ⟨-, -, -, -, n7, -⟩⟩, -, -, hT⟩ := id h
  refine k_So_findUnknown o ⟨s0, fun M2 e2 => ?_⟩
  have f2 : FI (fun z => z = s) M M2 := by rw [e2]; exact FI.ui rfl
  have o2 : mOk M2 := by rw [e2]; exact mOk_UI o ⟨by decide, by decide⟩
  rw [f2.2.2.1, r7]
  refine (s_JA_fill (d := d + 1) o2 (by rw [f2.1]; exact k7) (by rw [f2.2.1, n7]; decide) ⟨by decide, by decide⟩).mono (fun M4 q => ?_)
  obtain ⟨o4, f4, i4⟩ := q
  rw [f2.2.1, n7] at i4
  have ff : FI (Sun s) M M4 := (f2.mono (fun _ u => Or.inl u)).trans (f4.mono (fun _ u => Or.inr (Or.inl u)))
  have z9 : ∀ (f : Nat → Int) (n : Nat), n ≤ 512 → sm (fun k => if mI M4 (s + 124) k = -1 then 0 else f k) n = 0 := fun f n => by
    induction n with
    | zero => exact fun _ => rfl
    | succ n ih =>
      intro hn
      show sm (fun k => if mI M4 (s + 124) k = -1 then 0 else f k) n + (if mI M4 (s + 124) n = -1 then 0 else f n) = 0
      rw [ih (by omega), if_pos (i4 n (by omega))]
      all_goals rfl
  have cn5 := hT.1.1
  have I4 : fuX M s g cn cc bc 0 M4 := ⟨ff, h.fi ff o4 (sun_g h), fun j hj => by rw [ff.2.2.2.2.2.2 (s + 122) (fun u => by unfold Sun at u; omega), ff.2.2.2.2.2.2 (s + 123) (fun u => by unfold Sun at u; omega)]; exact hL j hj, ⟨by rw [f4.2.2.2.2.2.2 s (show ¬ s = s + 124 by omega), mI_ui s 10 e2, if_pos ⟨rfl, rfl⟩]; rfl, by decide, fun k hk => Or.inl (i4 k hk), fun i hi => absurd hi (by omega)⟩, fun k hk u => absurd (i4 k (by omega)) u, fun f => (z9 f cn cn5).symm⟩
  refine ⟨o4, ?_⟩
  suffices HH : ∀ (t sw : Nat) (l1 : Int) (un : Nat) (M1 : mM), 513 ≤ sw + t → sw ≤ 513 → ((l1 = 0 ∧ noM M1 s g cn 0) ∨ (l1 = 1 ∧ sw ≤ un)) → fuX M s g cn cc bc un M1 → h_So_findUnknown_17 G (d + 1) s l1 sw M1 (fuR M s g cn cc bc) from HH 513 0 1 0 M4 (by omega) (by omega) (Or.inr ⟨rfl, Nat.le_refl _⟩) I4
  intro t
  induction t with
  | zero =>
    intro sw l1 un M1 h1 h2 hl hI
    have u40 := hI.2.2.2.1.2.1
    have lb : l1 = 0 ∨ l1 = 1 := by omega
    have fin : (512 : Int) < sw ∨ l1 = 0 → fuR M s g cn cc bc 1 M1 := fun u => ⟨un, hI, Or.inl ⟨rfl, by
      rcases hl with hl | hl
      · exact hl.2
      · exfalso
        omega⟩⟩
    exact k_So_findUnknown_17 hI.2.1.1 (m_b32 lb) ⟨by omega, by omega⟩ ⟨fin, fun u => absurd (Or.inl (by omega)) u⟩
  | succ t ih =>
    intro sw l1 un M1 h1 h2 hl hI
    have u40 := hI.2.2.2.1.2.1
    have lb : l1 = 0 ∨ l1 = 1 := by omega
    have fin : (512 : Int) < sw ∨ l1 = 0 → fuR M s g cn cc bc 1 M1 := fun u => ⟨un, hI, Or.inl ⟨rfl, by
      rcases hl with hl | hl
      · exact hl.2
      · exfalso
        omega⟩⟩
    refine k_So_findUnknown_17 hI.2.1.1 (m_b32 lb) ⟨by omega, by omega⟩ ⟨fin, fun u => ?_⟩
    obtain ⟨-, ⟨⟨s0', -⟩, ⟨-, -, -, r3, -⟩, -⟩, ⟨g0, -⟩, -, hT'⟩ := id hI.2.1
    rw [r3, hT'.2.2.2]
    have sl : sw ≤ 512 := by
      by_cases c : (512 : Int) < sw
      · exact absurd (Or.inl c) u
      · omega
    refine ⟨s0', g0, x_fu40 (u0 := un) ⟨by omega, by omega⟩ (fun l1' un' M' hI' h1' => ?_) cn 0 un M1 (Nat.le_refl _) (Nat.le_refl _) (Or.inl ⟨rfl, fun j j1 j2 => absurd j2 (by omega)⟩) hI⟩
    rw [show ((sw : Int) + 1) = ((sw + 1 : Nat) : Int) by omega]
    refine ih (sw + 1) l1' un' M' (by omega) (by omega) ?_ hI'
    rcases h1' with y | ⟨y1, y2⟩
    · exact Or.inl y
    · refine Or.inr ⟨y1, ?_⟩
      have : l1 = 1 := by
        rcases lb with z | z
        · exact absurd (Or.inr z) u
        · exact z
      omega
end NBZ
