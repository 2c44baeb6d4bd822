/-! The class's game: discover. -/
section GAJ
variable {G : mG} {d z g p O P K V F L cnt U w9 Ab Be C Ab0 Be0 C0 s h t c cn k u v cc n bc bc0 x a0 br mu cn0 : Nat} {M0 M M' M1 M2 MB : mM} {ns : Nat → Int} {sf ef : Nat → Nat} {H : Nat → Nat} {S R : Nat → Prop} {sm sh : Int}
/-- all states are found: a game of cn states -/
def GE (M : mM) (g cn : Nat) : Prop := ∃ cc bc : Nat, 1 ≤ cn ∧ GQ M g cn (cn - 1) cc bc ∧ GS M g (cn - 1)
/-- what discover comes to -/
def dcQ (M0 : mM) (z g p O P K V F : Nat) (ns : Nat → Int) (sf ef : Nat → Nat) (L cnt Ab0 Be0 C0 : Nat) (st : Int) (r : Int) (M' : mM) : Prop := i32 r ∧ (∃ U w9 Ab Be C, (U = g + 1 ∨ U = g + 11) ∧ GY U w9 M0 z g p O P K V F ns sf ef L cnt Ab0 Be0 C0 M' Ab Be C) ∧ (mI M' (g + 10) 9 ≤ st + 512 ∧ st ≤ mI M' (g + 10) 9) ∧ (r = 0 → ∃ cn : Nat, GE M' g cn) ∧ (r ≠ 0 → mI M' g 0 = 0 ∧ mI M' g 12 = 0 ∧ mI M' g 13 = 0)
theorem s_dc96 (hF : FMs G) {st : Int} (nx : ∀ (M : mM) (Ab Be C cn cc bc : Nat), GX M0 z g p O P K V F ns sf ef L cnt Ab0 Be0 C0 M Ab Be C → GQ M g cn k cc bc ∧ GS M g k → k < cn → mI M (g + 10) 9 = st + k + 1 → h_Ga_discover_72 G (d + 6) g ((k : Int) + 1) M (dcQ M0 z g p O P K V F ns sf ef L cnt Ab0 Be0 C0 st)) (hk : k < 512) (hst0 : 0 ≤ st) : ∀ (t i : Nat) (M : mM) (Ab Be C cn cc bc : Nat) (r : Int), cnt ≤ i + t → i ≤ cnt → i32 r → GX M0 z g p O P K V F ns sf ef L cnt Ab0 Be0 C0 M Ab Be C → mI M (g + 10) 9 = st + k + 1 → (r = 0 → (GQ M g cn k cc bc ∧ GS M g k) ∧ k < cn) → h_Ga_discover_96 G (d + 6) g k r i M (dcQ M0 z g p O P K V F ns sf ef L cnt Ab0 Be0 C0 st) := by
  intro t
  have fin : ∀ {M : mM} {Ab Be C cn cc bc : Nat} {r : Int}, i32 r → GX M0 z g p O P K V F ns sf ef L cnt Ab0 Be0 C0 M Ab Be C → mI M (g + 10) 9 = st + k + 1 → (r = 0 → (GQ M g cn k cc bc ∧ GS M g k) ∧ k < cn) → ((r = 0) → (h_Ga_discover_72 G (d + 6) g ((k : Int) + 1) M (dcQ M0 z g p O P K V F ns sf ef L cnt Ab0 Be0 C0 st))) ∧ (¬ (r = 0) → (∀ M52, M52 = mUI M g 11 k → Cv G y_Ga_clear (d + 6) [vr g] M52 (fun M54 => mOk M54 ∧ (dcQ M0 z g p O P K V F ns sf ef L cnt Ab0 Be0 C0 st r M54)))) := fun {M Ab Be C cn cc bc r} ir hx hst hq => by
    refine ⟨fun r0 => nx M Ab Be C cn cc bc hx (hq r0).1 (hq r0).2 hst, fun r0 M52 e52 => ?_⟩
    have f52 : FI (fun x => x = g) M M52 := by rw [e52]; exact FI.ui rfl
    have o52 : mOk M52 := by rw [e52]; exact mOk_UI hx.1 ⟨by omega, by omega⟩
    refine (s_Ga_clear o52 (by rw [f52.1]; exact hx.2.1.1)).mono (fun M54 q => ?_)
    obtain ⟨q1, q2, q3⟩ := q
    have ff := f52.trans q2
    refine ⟨q1, ir, ⟨g + 1, 1, Ab, Be, C, Or.inl rfl, hx.fi q1 (ff.mono (fun x y => Or.inl (by have y' : x = g := y; omega)))⟩, ?_, fun t => absurd t r0, fun _ => ⟨by rw [q3, if_neg (by decide), if_neg (by decide), if_pos rfl], by rw [q3, if_neg (by decide), if_pos rfl], by rw [q3, if_pos rfl]⟩⟩
    rw [ff.2.2.2.2.2.2 _ (show ¬ g + 10 = g by omega), hst]
    omega
  induction t with
  | zero =>
    intro i M Ab Be C cn cc bc r ht hi ir hx hst hq
    obtain ⟨h1, h2, h3, h4, h5, -⟩ := id hx
    have c12 := h4.2.2.2.2.1.1
    have c60 := h4.2.2.2.2.1.2
    refine k_Ga_discover_96 h1 (i32s (by omega) (by omega)) ir (i32s (by omega) (by omega)) ?_
    rw [h5.1, c12]
    exact ⟨h2.1, h4.1.1, fun y => absurd y (by omega), fun _ => fin ir hx hst hq, fun y => absurd (Or.inl (by omega)) y⟩
  | succ t ih =>
    intro i M Ab Be C cn cc bc r ht hi ir hx hst hq
    obtain ⟨h1, h2, h3, h4, h5, -⟩ := id hx
    obtain ⟨g0, ⟨-, r2, -⟩, ⟨-, k2, -⟩, ⟨-, n2, -⟩⟩ := id h2
    have c12 := h4.2.2.2.2.1.1
    have c60 := h4.2.2.2.2.1.2
    refine k_Ga_discover_96 h1 (i32s (by omega) (by omega)) ir (i32s (by omega) (by omega)) ?_
    rw [h5.1, c12, r2, n2]
    refine ⟨g0, h4.1.1, fun _ _ => ⟨k2, by omega⟩, fun _ => fin ir hx hst hq, fun y => ?_⟩
    have r0 : r = 0 := Classical.byContradiction (fun t => y (Or.inr (Or.inl t)))
    have ic : i < cnt := by
      by_cases t : ((cnt : Nat) : Int) ≤ i
      · exact absurd (Or.inl t) y
      · omega
    obtain ⟨q1, q2⟩ := hq r0
    refine (s_Ga_tryCommand hF hx ic hk q1.1 q1.2).mono (fun r' M' q => ?_)
    obtain ⟨w1, ⟨A', B', C', w2⟩, w3, w4⟩ := q
    rw [show ((i : Int) + 1) = ((i + 1 : Nat) : Int) by omega]
    by_cases e : r' = 0
    · obtain ⟨cn', cc', bc', w5, w6, w7, w8, w9⟩ := w4 e
      exact ⟨w1, w2.1, ih (i + 1) M' A' B' C' cn' cc' bc' r' (by omega) (by omega) w1 w2 (by rw [w3]; exact hst) (fun _ => ⟨⟨⟨⟨w5.1, w5.2.2.1, w5.2.2.2⟩, w6, w7, w8⟩, w9⟩, by omega⟩)⟩
    · exact ⟨w1, w2.1, ih (i + 1) M' A' B' C' cn cc bc r' (by omega) (by omega) w1 w2 (by rw [w3]; exact hst) (fun t => absurd t e)⟩
theorem s_dc72 (hF : FMs G) {st : Int} (hst0 : 0 ≤ st ∧ st < 100000000) : ∀ (t k : Nat) (M : mM) (U w9 Ab Be C cn cc bc : Nat), 512 ≤ k + t → k ≤ 512 → (U = g + 1 ∨ U = g + 11) → GY U w9 M0 z g p O P K V F ns sf ef L cnt Ab0 Be0 C0 M Ab Be C → (mI M g 0 = ((cn : Nat) : Int) ∧ cn ≤ 512 ∧ SLt M g cn) → 1 ≤ cn → k ≤ cn → mI M g 12 = ((cc : Nat) : Int) → mI M g 13 = ((bc : Nat) : Int) → ((k = 0 ∧ cc = 0 ∧ bc = 0) ∨ (∃ k', k = k' + 1 ∧ GT M g cn k' cc bc ∧ GS M g k')) → mI M (g + 10) 9 = st + k → h_Ga_discover_72 G (d + 6) g k M (dcQ M0 z g p O P K V F ns sf ef L cnt Ab0 Be0 C0 st) := by
  intro t
  have done : ∀ {k : Nat} {M : mM} {U w9 Ab Be C cn cc bc : Nat}, k ≤ 512 → (U = g + 1 ∨ U = g + 11) → GY U w9 M0 z g p O P K V F ns sf ef L cnt Ab0 Be0 C0 M Ab Be C → (mI M g 0 = ((cn : Nat) : Int) ∧ cn ≤ 512 ∧ SLt M g cn) → 1 ≤ cn → cn = k → mI M g 12 = ((cc : Nat) : Int) → mI M g 13 = ((bc : Nat) : Int) → ((k = 0 ∧ cc = 0 ∧ bc = 0) ∨ (∃ k', k = k' + 1 ∧ GT M g cn k' cc bc ∧ GS M g k')) → mI M (g + 10) 9 = st + k → dcQ M0 z g p O P K V F ns sf ef L cnt Ab0 Be0 C0 st 0 M := fun {k M U w9 Ab Be C cn cc bc} hk hU hx hcn h1c hck hcc hbc hgt hst => by
    refine ⟨⟨by decide, by decide⟩, ⟨U, w9, Ab, Be, C, hU, hx⟩, by rw [hst]; omega, fun _ => ?_, fun t => absurd rfl t⟩
    rcases hgt with ⟨k0, -⟩ | ⟨k', ek, gt⟩
    · omega
    · exact ⟨cn, cc, bc, h1c, ⟨hcn, hcc, hbc, by rw [show cn - 1 = k' by omega]; exact gt.1⟩, by rw [show cn - 1 = k' by omega]; exact gt.2⟩
  induction t with
  | zero =>
    intro k M U w9 Ab Be C cn cc bc ht hk hU hx hcn h1c hkc hcc hbc hgt hst
    refine k_Ga_discover_72 hx.1 (i32s (by omega) (by omega)) ⟨hx.2.1.1, fun _ => done hk hU hx hcn h1c (by omega) hcc hbc hgt hst, fun y => absurd (Or.inr (by omega)) y⟩
  | succ t ih =>
    intro k M U w9 Ab Be C cn cc bc ht hk hU hx hcn h1c hkc hcc hbc hgt hst
    refine k_Ga_discover_72 hx.1 (i32s (by omega) (by omega)) ?_
    rw [hcn.1]
    refine ⟨hx.2.1.1, fun y => done hk hU hx hcn h1c (by omega) hcc hbc hgt hst, fun y => ?_⟩
    have k5 : k < 512 ∧ k < cn := by omega
    refine (s_Ga_lookAt (d := d + 1) hF hU hx k5.1 hcn hcc hbc (by rw [hst]; clear hgt; omega) (hgt.imp id (fun ⟨k', e, q⟩ => ⟨k', e, q.1⟩)) (fun j hj => by
      rcases hgt with ⟨k0, -⟩ | ⟨k', ek, -, q⟩
      · omega
      · exact q j (by omega))).mono (fun r M' q => ?_)
    obtain ⟨w1, ⟨A', B', C', w2⟩, w3, w4⟩ := q
    rw [hst] at w3
    refine ⟨w1, w2.1, s_dc96 hF (fun M2 A2 B2 C2 cn2 cc2 bc2 y1 y2 y3 y4 => ?_) k5.1 hst0.1 cnt 0 M' A' B' C' cn cc bc r (by omega) (by omega) w1 w2 w3 (fun r0 => ⟨w4 r0, k5.2⟩)⟩
    rw [show ((k : Int) + 1) = ((k + 1 : Nat) : Int) by omega]
    obtain ⟨⟨z1, z2, z3, z4⟩, z5⟩ := y2
    exact ih (k + 1) M2 (g + 1) 1 A2 B2 C2 cn2 cc2 bc2 (by omega) (by omega) (Or.inl rfl) y1 z1 (by omega) (by omega) z2 z3 (Or.inr ⟨k, rfl, z4, z5⟩) (by rw [y4]; omega)
end GAJ
