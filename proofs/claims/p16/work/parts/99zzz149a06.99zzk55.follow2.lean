section
/-! The class's game: follow, the whole; tryCommand. -/
section GAG
variable {G : mG} {d z g p O P K V F L cnt U Ab Be C Ab0 Be0 C0 s h t c cn k u v cc n bc bc0 x a0 br : Nat} {M0 M M' M1 M2 : mM} {ns : Nat → Int} {sf ef : Nat → Nat} {H : Nat → Nat} {S R : Nat → Prop} {sm sh : Int}
theorem pl_fo {r : Int} (hb1 : mI M1 g 13 = ((bc : Nat) : Int)) (hx : GX M0 z g p O P K V F ns sf ef L cnt Ab0 Be0 C0 M Ab Be C) (hf : flF M1 g p bc0 M) (hcn : mI M g 0 = ((cn : Nat) : Int)) (hk : k ≤ cn) (hcn5 : cn ≤ 512) (hsl : SLt M g cn) (hbc : mI M g 13 = ((bc : Nat) : Int)) (hb : bc0 ≤ bc ∧ bc ≤ 4096) (q : plQ M g M') (ir : i32 r) (hr : r ≠ 0) : foQ M0 z g p O P K V F ns sf ef L cnt Ab0 Be0 C0 M1 bc0 k sm r M' := by
  obtain ⟨q1, q2, q3⟩ := q
  have off := ga_off hx
  have nb : ∀ x, x ≠ g → mI M' x = mI M x := fun x hx => q2.2.2.2.2.2.2 x hx
  exact ⟨ir, hf.trans ⟨fun i _ i10 _ => q3 i i10, fun i i2 _ => nb _ (by omega), ⟨nb _ (by omega), nb _ (by omega)⟩, by rw [nb _ (by omega)], fun i hi => nb _ (off i 0 hi (by omega)), fun i _ => ⟨by rw [nb _ (by omega)], by rw [nb _ (by omega)]⟩⟩, ⟨Ab, Be, C, hx.fi q1 (q2.mono (fun x y => Or.inl (by have y' : x = g := y; omega)))⟩, cn, bc, ⟨by rw [q3 0 (by decide)]; exact hcn, hk, hcn5, fun i hi => by rw [nb _ (by omega)]; exact hsl i hi⟩, by rw [q3 13 (by decide)]; exact hbc, hb.1, ⟨hb.2, by omega⟩, fun u => absurd u hr⟩
end GAG
end
section
/-! The class's game: tryCommand. -/
section GAH
variable {G : mG} {d z g p O P K V F L cnt U Ab Be C Ab0 Be0 C0 s h t c cn k u v cc n bc bc0 x a0 br mu cn0 : Nat} {M0 M M' M1 M2 MB : mM} {ns : Nat → Int} {sf ef : Nat → Nat} {H : Nat → Nat} {S R : Nat → Prop} {sm sh : Int}
/-- a command of the game -/
def cmdG (M : mM) (g cn bc c : Nat) : Prop := ∃ x y mu : Nat, mI M (g + 7) c = ((x : Nat) : Int) ∧ mI M (g + 7) (c + 1) = ((y : Nat) : Int) ∧ (x < y ∧ y ≤ x + 8) ∧ y ≤ bc ∧ (∀ i, x ≤ i → i < y → 0 ≤ mI M (g + 8) i ∧ mI M (g + 8) i < cn ∧ 1 ≤ mI M (g + 9) i) ∧ mI M (g + 6) c = ((mu : Nat) : Int) ∧ 1 ≤ mu ∧ mu < 1000000000 ∧ wsm M g x (y - x) = ((mu : Nat) : Int) ∧ 0 ≤ mI M (g + 5) c ∧ mI M (g + 5) c < 60
theorem cmdG.cg {cn' bc' : Nat} (hh : cmdG M g cn bc c) (e7 : mI M' (g + 7) c = mI M (g + 7) c ∧ mI M' (g + 7) (c + 1) = mI M (g + 7) (c + 1)) (e6 : mI M' (g + 6) c = mI M (g + 6) c) (e5 : mI M' (g + 5) c = mI M (g + 5) c) (e8 : ∀ i, i < bc → mI M' (g + 8) i = mI M (g + 8) i ∧ mI M' (g + 9) i = mI M (g + 9) i) (hcn : cn ≤ cn') (hbc : bc ≤ bc') : cmdG M' g cn' bc' c := by
  obtain ⟨x, y, mu, h1, h2, h3, h4, h5, h6, h7, h8, h9, h10⟩ := hh
  refine ⟨x, y, mu, by rw [e7.1]; exact h1, by rw [e7.2]; exact h2, h3, by omega, fun i a b => ?_, by rw [e6]; exact h6, h7, h8, ?_, by rw [e5]; exact h10⟩
  · rw [(e8 i (by omega)).1, (e8 i (by omega)).2]
    obtain ⟨a1, a2, a3⟩ := h5 i a b
    exact ⟨a1, by omega, a3⟩
  · rw [wsm_cg (M := M) _ (fun i a b => (e8 i (by omega)).2)]
    exact h9
/-- the game's tables, up to state k -/
def GT (M : mM) (g cn k cc bc : Nat) : Prop := cc ≤ bc ∧ bc ≤ 4096 ∧ (∀ c, c < cc → cmdG M g cn bc c) ∧ (0 < cc → mI M (g + 7) 0 = 0 ∧ mI M (g + 7) cc = ((bc : Nat) : Int)) ∧ (cc = 0 → bc = 0) ∧ (∀ j, j ≤ k → ∃ x y : Nat, mI M (g + 4) j = ((x : Nat) : Int) ∧ mI M (g + 4) (j + 1) = ((y : Nat) : Int) ∧ x ≤ y ∧ y ≤ cc) ∧ mI M (g + 4) 0 = 0 ∧ mI M (g + 4) (k + 1) = ((cc : Nat) : Int)
/-- what a state was told is one of its commands, or 0; a player's state has a command -/
def GS1 (M : mM) (g j : Nat) : Prop := ∀ x y : Nat, mI M (g + 4) j = ((x : Nat) : Int) → mI M (g + 4) (j + 1) = ((y : Nat) : Int) → (0 ≤ mI M (g + 3) j ∧ (mI M (g + 3) j < ((y : Nat) : Int) - ((x : Nat) : Int) ∨ mI M (g + 3) j = 0)) ∧ ((mI M (g + 2) j = 1 ∨ mI M (g + 2) j = 2) → x < y)
def GS (M : mM) (g k : Nat) : Prop := ∀ j, j ≤ k → GS1 M g j
theorem GS1.cg {j : Nat} (h : GS1 M g j) (e2 : mI M' (g + 2) j = mI M (g + 2) j) (e3 : mI M' (g + 3) j = mI M (g + 3) j) (e4 : mI M' (g + 4) j = mI M (g + 4) j) (e5 : mI M' (g + 4) (j + 1) = mI M (g + 4) (j + 1)) : GS1 M' g j := by
  unfold GS1 at h ⊢
  rw [e2, e3, e4, e5]
  exact h
theorem GS.eq (h : GS M g k) (e : ∀ i, i ≤ 9 ∨ (20 ≤ i ∧ i ≤ 22) → mI M' (g + i) = mI M (g + i)) : GS M' g k := fun j hj => (h j hj).cg (by rw [e 2 (by omega)]) (by rw [e 3 (by omega)]) (by rw [e 4 (by omega)]) (by rw [e 4 (by omega)])
/-- what trying a command comes to -/
def tcQ (M0 : mM) (z g p O P K V F : Nat) (ns : Nat → Int) (sf ef : Nat → Nat) (L cnt Ab0 Be0 C0 : Nat) (MB : mM) (k cn : Nat) (r : Int) (M' : mM) : Prop := i32 r ∧ (∃ Ab Be C, GX M0 z g p O P K V F ns sf ef L cnt Ab0 Be0 C0 M' Ab Be C) ∧ mI M' (g + 10) 9 = mI MB (g + 10) 9 ∧ (r = 0 → ∃ cn' cc' bc' : Nat, (mI M' g 0 = ((cn' : Nat) : Int) ∧ cn ≤ cn' ∧ cn' ≤ 512 ∧ SLt M' g cn') ∧ mI M' g 12 = ((cc' : Nat) : Int) ∧ mI M' g 13 = ((bc' : Nat) : Int) ∧ GT M' g cn' k cc' bc' ∧ GS M' g k)
/-- shares -/
theorem share_ok (hch : chz M g n) (hd : ∀ b, b < n → (mI M (g + 22) b) ∣ ((mu : Nat) : Int)) (hmu : 1 ≤ mu) {b : Nat} (hb : b < n) : 0 ≤ Int.tdiv mu (mI M (g + 22) b) * mI M (g + 21) b ∧ (mI M (g + 21) b ≠ 0 → 1 ≤ Int.tdiv mu (mI M (g + 22) b) * mI M (g + 21) b) := by
  obtain ⟨b1, b2, b3, b4⟩ := hch b hb
  obtain ⟨q, eq⟩ := hd b hb
  have et : Int.tdiv mu (mI M (g + 22) b) = q := by
    rw [eq, Int.tdiv_eq_ediv_of_nonneg (by rw [← eq]; omega)]
    exact Int.mul_ediv_cancel_left _ (by omega)
  have q1 : 1 ≤ q := by
    by_cases y : 1 ≤ q
    · exact y
    · have := Int.mul_le_mul_of_nonneg_left (show q ≤ 0 by omega) (show 0 ≤ mI M (g + 22) b by omega)
      rw [← eq] at this
      omega
  rw [et]
  refine ⟨Int.mul_nonneg (by omega) b1, fun y => ?_⟩
  exact Int.mul_pos (by omega) (by omega)
theorem shS_mono (hch : chz M g n) (hd : ∀ b, b < n → (mI M (g + 22) b) ∣ ((mu : Nat) : Int)) (hmu : 1 ≤ mu) : ∀ (t b : Nat), b + t = n → 0 ≤ shS M g mu b → shS M g mu b ≤ shS M g mu n
  | 0, b, e, _ => by rw [show b = n by omega]; exact Int.le_refl _
  | t + 1, b, e, h0 => by
    have s1 := (share_ok hch hd hmu (b := b) (by omega)).1
    have e1 : shS M g mu (b + 1) = shS M g mu b + Int.tdiv mu (mI M (g + 22) b) * mI M (g + 21) b := rfl
    have := shS_mono hch hd hmu t (b + 1) (by omega) (by rw [e1]; omega)
    rw [e1] at this
    omega
end GAH
end
section
/-! The class's game: tryCommand, the whole; lookAt. -/
section GAI
variable {G : mG} {d z g p O P K V F L cnt U w9 Ab Be C Ab0 Be0 C0 s h t c cn k u v cc n bc bc0 x a0 br mu cn0 : Nat} {M0 M M' M1 M2 MB : mM} {ns : Nat → Int} {sf ef : Nat → Nat} {H : Nat → Nat} {S R : Nat → Prop} {sm sh : Int}
/-- between two commands of state k -/
def GQ (M : mM) (g cn k cc bc : Nat) : Prop := (mI M g 0 = ((cn : Nat) : Int) ∧ cn ≤ 512 ∧ SLt M g cn) ∧ mI M g 12 = ((cc : Nat) : Int) ∧ mI M g 13 = ((bc : Nat) : Int) ∧ GT M g cn k cc bc
/-- a run changes nothing of it -/
theorem GQ.eq (hq : GQ M g cn k cc bc) (e : ∀ i, i ≤ 9 ∨ (20 ≤ i ∧ i ≤ 22) → mI M' (g + i) = mI M (g + i)) : GQ M' g cn k cc bc := by
  have e0 := e 0 (by omega)
  rw [Nat.add_zero] at e0
  obtain ⟨⟨q1, q2, q3⟩, q4, q5, q6⟩ := hq
  have e4 := e 4 (by omega)
  have e7 := e 7 (by omega)
  refine ⟨⟨by rw [e0]; exact q1, q2, fun i hi => by rw [e 20 (by omega)]; exact q3 i hi⟩, by rw [e0]; exact q4, by rw [e0]; exact q5, ?_⟩
  obtain ⟨t1, t2, t3, t4, t5, t6, t7, t8⟩ := q6
  exact ⟨t1, t2, fun c hc => (t3 c hc).cg ⟨by rw [e7], by rw [e7]⟩ (by rw [e 6 (by omega)]) (by rw [e 5 (by omega)]) (fun i _ => ⟨by rw [e 8 (by omega)], by rw [e 9 (by omega)]⟩) (Nat.le_refl _) (Nat.le_refl _), by rw [e7]; exact t4, t5, by rw [e4]; exact t6, by rw [e4]; exact t7, by rw [e4]; exact t8⟩
theorem tcQ_eq {M3 : mM} (e : mI MB (g + 10) 9 = mI M3 (g + 10) 9) : tcQ M0 z g p O P K V F ns sf ef L cnt Ab0 Be0 C0 MB k cn = tcQ M0 z g p O P K V F ns sf ef L cnt Ab0 Be0 C0 M3 k cn := by
  funext r M'
  unfold tcQ
  rw [e]
end GAI
end
section
/-! The class's game: discover. -/
section GAJ
variable {G : mG} {d z g p O P K V F L cnt U w9 Ab Be C Ab0 Be0 C0 s h t c cn k u v cc n bc bc0 x a0 br mu cn0 : Nat} {M0 M M' M1 M2 MB : mM} {ns : Nat → Int} {sf ef : Nat → Nat} {H : Nat → Nat} {S R : Nat → Prop} {sm sh : Int}
/-- all states are found: a game of cn states -/
def GE (M : mM) (g cn : Nat) : Prop := ∃ cc bc : Nat, 1 ≤ cn ∧ GQ M g cn (cn - 1) cc bc ∧ GS M g (cn - 1)
/-- what discover comes to -/
def dcQ (M0 : mM) (z g p O P K V F : Nat) (ns : Nat → Int) (sf ef : Nat → Nat) (L cnt Ab0 Be0 C0 : Nat) (st : Int) (r : Int) (M' : mM) : Prop := i32 r ∧ (∃ U w9 Ab Be C, (U = g + 1 ∨ U = g + 11) ∧ GY U w9 M0 z g p O P K V F ns sf ef L cnt Ab0 Be0 C0 M' Ab Be C) ∧ (mI M' (g + 10) 9 ≤ st + 512 ∧ st ≤ mI M' (g + 10) 9) ∧ (r = 0 → ∃ cn : Nat, GE M' g cn) ∧ (r ≠ 0 → mI M' g 0 = 0 ∧ mI M' g 12 = 0 ∧ mI M' g 13 = 0)
end GAJ
end
section
/-! The class's game: discover, the whole. -/
section GAK
variable {G : mG} {d z g p O P K V F L cnt U w9 Ab Be C Ab0 Be0 C0 s h t c cn k u v cc n bc bc0 x a0 br mu cn0 : Nat} {M0 M M' M1 M2 MB : mM} {ns : Nat → Int} {sf ef : Nat → Nat} {H : Nat → Nat} {S R : Nat → Prop} {sm sh : Int}
/-- the game at rest, and a program to explore -/
def GZ (M : mM) (z g p O P K V F : Nat) (ns : Nat → Int) (sf ef : Nat → Nat) (L cnt U Ab Be C : Nat) : Prop := mOk M ∧ GK M g ∧ MK M z (g + 10) U Ab Be C ∧ (U = g + 1 ∨ U = g + 11) ∧ PW M z p O P K V F ns sf ef L cnt ∧ (g + 23 ≤ z ∧ (g + 22 < p ∨ p + 15 < g) ∧ (O ≠ Ab ∧ O ≠ Be ∧ P ≠ Ab ∧ P ≠ Be)) ∧ (∀ x, x < 60 → mI M (g + 15) x ≤ mI M (g + 10) 9) ∧ (0 ≤ mI M (g + 10) 9 ∧ mI M (g + 10) 9 < 100000000)
end GAK
end
section
/-! The class's game: questions. -/
section GAL
variable {G : mG} {d g c cn k cc bc : Nat} {M M' : mM}
theorem s_Ga_hasState {l : Int} (il : i32 l) (h1 : mOk M) (hk : mK M g = 7) (hc : mI M g 0 = ((cn : Nat) : Int)) : Ci G y_Ga_hasState d [vr g, vi l] M (fun r M' => M' = M ∧ (r = 0 ∨ r = 1) ∧ (r ≠ 0 ↔ (0 ≤ l ∧ l < cn))) := by
  refine k_Ga_hasState h1 il ⟨fun _ => hk, fun v4 e4 => ⟨rfl, ?_⟩⟩
  rw [hc] at e4
  by_cases y : l < 0 ∨ ((cn : Nat) : Int) ≤ l
  · rw [if_pos y] at e4
    rw [e4]
    exact ⟨Or.inl rfl, ⟨fun t => absurd rfl t, fun t => by omega⟩⟩
  · rw [if_neg y] at e4
    rw [e4]
    exact ⟨Or.inr rfl, ⟨fun _ => by omega, fun _ => by decide⟩⟩
/-- the game at rest: no states, or all of them -/
def GR (M : mM) (g cn cc bc : Nat) : Prop := (cn = 0 ∧ mI M g 0 = 0) ∨ (1 ≤ cn ∧ GQ M g cn (cn - 1) cc bc)
theorem s_Ga_commandAt {l1 l2 : Int} (i1 : i32 l1) (i2 : i32 l2) (h1 : mOk M) (hk : GK M g) (hr : GR M g cn cc bc) : Ci G y_Ga_commandAt (d + 1) [vr g, vi l1, vi l2] M (fun r M' => M' = M ∧ i32 r ∧ (r = -1 ∨ (0 ≤ r ∧ r < cc ∧ 1 ≤ cn))) := by
  obtain ⟨g0, ⟨-, -, -, g4, -⟩, ⟨-, -, -, k4, -⟩, ⟨-, -, -, n4, -⟩⟩ := id hk
  have hc : mI M g 0 = ((cn : Nat) : Int) := by
    rcases hr with ⟨e1, e2⟩ | ⟨-, q⟩
    · rw [e1]; exact e2
    · exact q.1.1
  refine k_Ga_commandAt h1 i1 i2 ⟨g0, (s_Ga_hasState i1 h1 g0 hc).mono (fun x3 M2 q => ?_)⟩
  obtain ⟨e2, hx, hiff⟩ := q
  subst e2
  have rows : x3 ≠ 0 → ∃ a b : Nat, mI M2 (g + 4) l1.toNat = ((a : Nat) : Int) ∧ mI M2 (g + 4) (l1 + 1).toNat = ((b : Nat) : Int) ∧ a ≤ b ∧ b ≤ cc ∧ cc ≤ 4096 ∧ 0 ≤ l1 ∧ l1 < 512 ∧ 1 ≤ cn := fun y => by
    have b := hiff.mp y
    rcases hr with ⟨e1, -⟩ | ⟨c1, q⟩
    · omega
    · obtain ⟨⟨-, q2, -⟩, -, -, t1, t2, -, -, -, t6, -⟩ := q
      obtain ⟨x, y', f1, f2, f3, f4⟩ := t6 l1.toNat (by omega)
      exact ⟨x, y', f1, by rw [show (l1 + 1).toNat = l1.toNat + 1 by omega]; exact f2, f3, f4, by omega, b.1, by omega, c1⟩
  clear hr hiff
  rw [g4, n4]
  refine ⟨m_b32 hx, h1, fun y _ => ?_, fun _ => ⟨rfl, ⟨by decide, by decide⟩, Or.inl rfl⟩, fun y => ?_⟩
  · obtain ⟨a, b, f1, f2, f3, f4, f5, f6, f7, f8⟩ := rows y
    rw [f1, f2]
    exact ⟨g0, k4, by omega, by omega, ⟨by omega, by omega⟩⟩
  · have y0 : x3 ≠ 0 := fun t => y (Or.inl t)
    obtain ⟨a, b, f1, f2, f3, f4, f5, f6, f7, f8⟩ := rows y0
    have y1 : 0 ≤ l2 := by
      by_cases t : l2 < 0
      · exact absurd (Or.inr (Or.inl t)) y
      · omega
    have y2 : l2 < mI M2 (g + 4) (Int.toNat (l1 + 1)) - mI M2 (g + 4) (Int.toNat l1) := Classical.byContradiction (fun t => y (Or.inr (Or.inr t)))
    rw [f1, f2] at y2
    rw [f1]
    exact ⟨g0, k4, by omega, rfl, ⟨by omega, by omega⟩, Or.inr ⟨by omega, by omega, f8⟩⟩
theorem s_Ga_drawn {l2 : Int} (i2 : i32 l2) (h1 : mOk M) (hk : GK M g) (hc : c < cc) (hcc : cc ≤ bc) (hbc : bc ≤ 4096) (hcn : cn ≤ 512) (hm : cmdG M g cn bc c) : Ci G y_Ga_drawn d [vr g, vi c, vi l2] M (fun r M' => M' = M ∧ i32 r ∧ (r = -1 ∨ (0 ≤ r ∧ r < cn))) := by
  obtain ⟨g0, ⟨-, -, -, -, -, g6, g7, g8, g9, -⟩, ⟨-, -, -, -, -, k6, k7, k8, k9, -⟩, ⟨-, -, -, -, -, n6, n7, n8, n9, -⟩⟩ := id hk
  obtain ⟨x, y, mu, e1, e2, e3, e4, e5, e6, e7, e8, e9, -⟩ := hm
  have wl : ∀ i, x ≤ i → i < y → mI M (g + 9) i < 1000000000 := fun i a b => by
    have := wsm_le (M := M) (g := g) (x := x) (n := y - x) (fun i a b => (e5 i a (by omega)).2.2) (y - x) (Nat.le_refl _) i a (by omega)
    rw [e9] at this
    omega
  refine k_Ga_drawn h1 (i32s (by omega) (by omega)) i2 ?_
  rw [g6, n6, g7, n7, Int.toNat_natCast, e6, e1]
  refine ⟨g0, k6, by omega, k7, by omega, ?_⟩
  have b3 : i64 (l2 * ((mu : Nat) : Int)) := by
    have n1 : l2.natAbs ≤ 2147483648 := by unfold i32 at i2; omega
    have n2 : (((mu : Nat) : Int)).natAbs ≤ 1000000000 := by omega
    have := mulab n1 n2
    exact ⟨by omega, by omega⟩
  suffices HH : ∀ (t i : Nat) (j5 : Int), y ≤ i + t → x ≤ i → i ≤ y → 0 ≤ j5 → j5 ≤ ((i - x : Nat) : Int) * 1000000000 → h_Ga_drawn_22 G d g c (l2 * ((mu : Nat) : Int)) j5 i M (fun r M' => M' = M ∧ i32 r ∧ (r = -1 ∨ (0 ≤ r ∧ r < cn))) from HH (y - x) x 0 (by omega) (Nat.le_refl _) (by omega) (Int.le_refl _) (by omega)
  intro t
  induction t with
  | zero =>
    intro i j5 h2 h3 h4 h5 h6
    refine k_Ga_drawn_22 h1 (i32s (by omega) (by omega)) b3 ⟨by omega, by omega⟩ (i32s (by omega) (by omega)) ?_
    rw [g7, n7, show Int.toNat ((c : Int) + 1) = c + 1 by omega, e2]
    exact ⟨g0, k7, by omega, fun _ => ⟨rfl, ⟨by decide, by decide⟩, Or.inl rfl⟩, fun u => absurd u (by omega)⟩
  | succ t ih =>
    intro i j5 h2 h3 h4 h5 h6
    refine k_Ga_drawn_22 h1 (i32s (by omega) (by omega)) b3 ⟨by omega, by omega⟩ (i32s (by omega) (by omega)) ?_
    rw [g7, n7, show Int.toNat ((c : Int) + 1) = c + 1 by omega, e2, g8, g9, n8, n9, Int.toNat_natCast]
    refine ⟨g0, k7, by omega, fun _ => ⟨rfl, ⟨by decide, by decide⟩, Or.inl rfl⟩, fun u => ?_⟩
    have iy : i < y := by omega
    obtain ⟨w1, w2, w3⟩ := e5 i h3 iy
    have w4 := wl i h3 iy
    refine ⟨k9, by omega, fun _ => ?_, fun _ => ⟨k8, by omega, rfl, ⟨by omega, by omega⟩, Or.inr ⟨w1, w2⟩⟩⟩
    rw [show ((i : Int) + 1) = ((i + 1 : Nat) : Int) by omega]
    exact ih (i + 1) _ (by omega) (by omega) (by omega) (by omega) (by rw [show i + 1 - x = (i - x) + 1 by omega]; omega)
end GAL
end
section
/-! The class's game, exactly: is it the next state. -/
section GAX
variable {G : mG} {d z g p O P K V F L cnt U w9 Ab Be C Ab0 Be0 C0 cn k : Nat} {M0 M : mM} {ns : Nat → Int} {sf ef : Nat → Nat}
theorem x_Ga_isNext (hx : GY U w9 M0 z g p O P K V F ns sf ef L cnt Ab0 Be0 C0 M Ab Be C) (hk : k < 512) : Ci G y_Ga_isNext d [vr g, vi k] M (fun r M' => M' = M ∧ (r = 0 ∨ r = 1) ∧ (r = 1 ↔ ∀ v, v < V → mI M (g + 1) (12 * k + v) = mI M (g + 10 + 2) v)) := by
  obtain ⟨h1, h2, h3, h4, h5, -⟩ := hx
  obtain ⟨g0, ⟨g1, -, -, -, -, -, -, -, -, g15, -⟩, ⟨k1, -⟩, ⟨n1, -⟩⟩ := h2
  obtain ⟨p5, p6⟩ := h4.2.2.1
  have m0 := h3.1
  have m5 := h3.2.1.2.1
  have km := h3.2.2.1.2.1
  have nm := h3.2.2.2.1.1
  refine k_Ga_isNext h1 (i32s (by omega) (by omega)) ?_
  suffices HH : ∀ (t i : Nat), V ≤ i + t → i ≤ V → (∀ v, v < i → mI M (g + 1) (12 * k + v) = mI M (g + 10 + 2) v) → h_Ga_isNext_2 G d g k i M (fun r M' => M' = M ∧ (r = 0 ∨ r = 1) ∧ (r = 1 ↔ ∀ v, v < V → mI M (g + 1) (12 * k + v) = mI M (g + 10 + 2) v)) from HH V 0 (by omega) (by omega) (fun v hv => absurd hv (by omega))
  intro t
  induction t with
  | zero =>
    intro i hi hi2 he
    refine k_Ga_isNext_2 h1 (i32s (by omega) (by omega)) (i32s (by omega) (by omega)) ?_
    rw [h5.1, p5]
    exact ⟨g0, h4.1.1, fun _ => ⟨rfl, Or.inr rfl, fun _ v hv => he v (by omega), fun _ => rfl⟩, fun y => absurd y (by omega)⟩
  | succ t ih =>
    intro i hi hi2 he
    refine k_Ga_isNext_2 h1 (i32s (by omega) (by omega)) (i32s (by omega) (by omega)) ?_
    have t1 : Int.toNat ((k : Int) * 12 + (i : Int)) = 12 * k + i := by omega
    rw [h5.1, p5, g1, n1, g15, m5, nm, t1, Int.toNat_natCast]
    refine ⟨g0, h4.1.1, fun y => ⟨rfl, Or.inr rfl, fun _ v hv => he v (by omega), fun _ => rfl⟩, fun y => ⟨k1, by omega, m0, km, by omega, fun e1 => ?_, fun e1 => ⟨rfl, Or.inl rfl, fun u => absurd u (by decide), fun u => absurd (u i (by omega)) e1⟩⟩⟩
    rw [show ((i : Int) + 1) = ((i + 1 : Nat) : Int) by omega]
    refine ih (i + 1) (by omega) (by omega) (fun v hv => ?_)
    by_cases y2 : v = i
    · rw [y2]; exact e1
    · exact he v (by omega)
end GAX
end
section
/-! The class's game, exactly: a state is entered. -/
/-- the hash of a state -/
def hq9 (f : Nat → Int) : Nat → Int
  | 0 => 0
  | i + 1 => w32 (hq9 f i * 31 + f i)
def hs9 (f : Nat → Int) (V : Nat) : Nat := (andI (xorI (hq9 f V) (ushrI (hq9 f V) 15)) 1023).toNat
theorem hq9_cg {f f' : Nat → Int} : ∀ {V : Nat}, (∀ v, v < V → f v = f' v) → hq9 f V = hq9 f' V
  | 0, _ => rfl
  | V + 1, h => by
    show w32 (hq9 f V * 31 + f V) = w32 (hq9 f' V * 31 + f' V)
    rw [hq9_cg (fun v hv => h v (by omega)), h V (by omega)]
theorem hs9_cg {f f' : Nat → Int} {V : Nat} (h : ∀ v, v < V → f v = f' v) : hs9 f V = hs9 f' V := by
  unfold hs9
  rw [hq9_cg h]
theorem SLq.cg {sl : Nat → Int} {hs hs' : Nat → Nat} {n : Nat} (h : SLq sl hs n) (e : ∀ k, k < n → hs k = hs' k) : SLq sl hs' n := ⟨h.1, fun k hk => by rw [← e k hk]; exact h.2.1 k hk, h.2.2⟩
/-- the slots tell the states, and these are all different -/
def SLm (M : mM) (g V cn : Nat) : Prop := SLq (mI M (g + 20)) (fun k => hs9 (fun v => mI M (g + 1) (12 * k + v)) V) cn ∧ ∀ i j, i < cn → j < cn → (∀ v, v < V → mI M (g + 1) (12 * i + v) = mI M (g + 1) (12 * j + v)) → i = j
/-- state k is the next one -/
def mtk (M : mM) (g V k : Nat) : Prop := ∀ v, v < V → mI M (g + 1) (12 * k + v) = mI M (g + 10 + 2) v
def enX (M : mM) (g V cn : Nat) (r : Int) (M' : mM) : Prop := (∃ k : Nat, k < cn ∧ mtk M g V k ∧ r = (k : Int) ∧ M' = M) ∨ ((∀ k, k < cn → ¬ mtk M g V k) ∧ ((cn = 512 ∧ r = -1 ∧ M' = M) ∨ (cn < 512 ∧ r = (cn : Int) ∧ mI M' g 0 = ((cn + 1 : Nat) : Int) ∧ SLm M' g V (cn + 1) ∧ (∀ v, v < 12 → mI M' (g + 1) (12 * cn + v) = mI M (g + 10 + 2) v) ∧ ∀ j, j < 12 * cn → mI M' (g + 1) j = mI M (g + 1) j)))
section GAW
variable {G : mG} {d z g p O P K V F L cnt U w9 Ab Be C Ab0 Be0 C0 cn k : Nat} {M0 M : mM} {ns : Nat → Int} {sf ef : Nat → Nat}
theorem x_en51 {h : Nat} (hx : GY U w9 M0 z g p O P K V F ns sf ef L cnt Ab0 Be0 C0 M Ab Be C) (hc : mI M g 0 = ((cn : Nat) : Int)) (hcn : cn ≤ 512) (sm : SLm M g V cn) (hh : h = hs9 (fun v => mI M (g + 10 + 2) v) V) : ∀ (t i : Nat), 1024 ≤ i + t → i ≤ 1024 → (∀ t', t' < i → ∃ k : Nat, k < cn ∧ mI M (g + 20) ((h + t') % 1024) = (k : Int) ∧ ¬ mtk M g V k) → h_Ga_enter_51 G (d + 1) g (((h + i) % 1024 : Nat) : Int) i M (fun r M' => enG U w9 M0 z g p O P K V F ns sf ef L cnt Ab0 Be0 C0 M Ab Be C cn r M' ∧ enX M g V cn r M') := by
  have hs : SLt M g cn := fun i hi => (sm.1.1 i hi).imp id (fun ⟨k, k1, k2⟩ => ⟨by omega, by omega⟩)
  have hV : V ≤ 12 := hx.2.2.2.1.2.2.1.2
  have md : ∀ x : Nat, x % 1024 < 1024 := fun x => Nat.mod_lt _ (by decide)
  obtain ⟨h1, h2, h3, h4, h5, -⟩ := id hx
  obtain ⟨g0, ⟨g1, -, -, -, -, -, -, -, -, g15, g16, -⟩, ⟨k1, -, -, -, -, -, -, -, -, k20, -⟩, ⟨n1, -, -, -, -, -, -, -, -, n20, -⟩⟩ := h2
  have m0 := h3.1
  have m5 := h3.2.1.2.1
  have km := h3.2.2.1.2.1
  have nm := h3.2.2.2.1.1
  -- a new state
  have new : ∀ {sl i : Nat}, sl < 1024 → i < 1024 → sl = (h + i) % 1024 → mI M (g + 20) sl = -1 → (∀ t, t < i → mI M (g + 20) ((h + t) % 1024) ≠ -1) → (∀ k, k < cn → ¬ mtk M g V k) → mK M g = 7 ∧ ((mI M g 0 = 512) → (enG U w9 M0 z g p O P K V F ns sf ef L cnt Ab0 Be0 C0 M Ab Be C cn (-1) M ∧ enX M g V cn (-1) M)) ∧ (¬ (mI M g 0 = 512) → (mK M (mR M g 16) = 30 ∧ ((0 : Int) ≤ sl ∧ (sl : Int) < (mN M (mR M g 16) : Int)) ∧ ∀ M23, M23 = mUI M (mR M g 16) (Int.toNat sl) (mI M g 0) → mK M23 (mR M23 g 15) = 5 ∧ mK M23 (mR M23 (mR M23 g 15) 5) = 30 ∧ mK M23 (mR M23 g 1) = 30 ∧ ((0 : Int) ≤ 0 ∧ (0 : Int) ≤ (mI M23 g 0) * 12 ∧ (0 : Int) ≤ 12 ∧ 0 + 12 ≤ (mN M23 (mR M23 (mR M23 g 15) 5) : Int) ∧ ((mI M23 g 0) * 12) + 12 ≤ (mN M23 (mR M23 g 1) : Int)) ∧ ∀ M29, M29 = mCpy M23 (mR M23 (mR M23 g 15) 5) (mR M23 g 1) 0 (Int.toNat ((mI M23 g 0) * 12)) 12 → i32 ((mI M29 g 0) + 1) ∧ ∀ M32, M32 = mUI M29 g 0 ((mI M29 g 0) + 1) → enG U w9 M0 z g p O P K V F ns sf ef L cnt Ab0 Be0 C0 M Ab Be C cn ((mI M32 g 0) - 1) M32 ∧ enX M g V cn ((mI M32 g 0) - 1) M32)) := fun {sl i9} hsl hi9 esl fsl bsl nom => by
    refine ⟨g0, fun y => ⟨⟨hx, FI.refl, fun _ _ => rfl, cn, hc, Nat.le_refl _, hcn, hs, Or.inl rfl, ⟨by decide, by decide⟩, fun _ => by omega⟩, Or.inr ⟨nom, Or.inl ⟨by omega, rfl, rfl⟩⟩⟩, fun y => ?_⟩
    rw [g16, n20, Int.toNat_natCast, hc]
    refine ⟨k20, by omega, fun M23 e23 => ?_⟩
    have f23 : FI (fun x => x = g + 20) M M23 := by rw [e23]; exact FI.ui rfl
    have c23 : mI M23 g 0 = ((cn : Nat) : Int) := by rw [f23.2.2.2.2.2.2 g (show ¬ g = g + 20 by omega)]; exact hc
    rw [f23.1, f23.2.1, f23.2.2.1, g15, m5, g1, n1, nm, c23]
    refine ⟨m0, km, k1, ⟨by omega, by omega, by omega, by omega, by omega⟩, fun M29 e29 => ?_⟩
    have f29 : FI (fun x => x = g + 1) M23 M29 := by
      rw [e29]
      refine ⟨rfl, rfl, rfl, rfl, rfl, rfl, fun x hx => ?_⟩
      funext j
      exact if_neg (fun u => hx u.1)
    have c29 : mI M29 g 0 = ((cn : Nat) : Int) := by rw [f29.2.2.2.2.2.2 g (show ¬ g = g + 1 by omega)]; exact c23
    rw [c29]
    refine ⟨⟨by omega, by omega⟩, fun M32 e32 => ?_⟩
    have f32 : FI (fun x => x = g) M29 M32 := by rw [e32]; exact FI.ui rfl
    have c32 : mI M32 g 0 = ((cn + 1 : Nat) : Int) := by rw [mI_ui g 0 e32, if_pos ⟨rfl, rfl⟩]; omega
    have ff : FI (fun x => x = g ∨ x = g + 1 ∨ x = g + 20) M M32 := ((f23.mono (fun _ y => Or.inr (Or.inr y))).trans (f29.mono (fun _ y => Or.inr (Or.inl y)))).trans (f32.mono (fun _ y => Or.inl y))
    have o32 : mOk M32 := by rw [e32]; exact mOk_UI (by rw [e29]; exact mOk_Cpy (by rw [e23]; exact mOk_UI h1 ⟨by omega, by omega⟩)) ⟨by omega, by omega⟩
    rw [c32]
    have n32 : ∀ j, mI M32 (g + 1) j = if 12 * cn ≤ j ∧ j < 12 * cn + 12 then mI M (g + 10 + 2) (j - 12 * cn) else mI M (g + 1) j := fun j => by
      rw [f32.2.2.2.2.2.2 _ (show ¬ g + 1 = g by omega), e29]
      show (if g + 1 = g + 1 ∧ Int.toNat (((cn : Nat) : Int) * 12) ≤ j ∧ j < Int.toNat (((cn : Nat) : Int) * 12) + 12 then mI M23 (g + 10 + 2) (0 + (j - Int.toNat (((cn : Nat) : Int) * 12))) else mI M23 (g + 1) j) = _
      rw [show Int.toNat (((cn : Nat) : Int) * 12) = 12 * cn by omega, f23.2.2.2.2.2.2 _ (show ¬ g + 10 + 2 = g + 20 by omega), f23.2.2.2.2.2.2 _ (show ¬ g + 1 = g + 20 by omega), Nat.zero_add]
      by_cases y3 : 12 * cn ≤ j ∧ j < 12 * cn + 12
      · rw [if_pos ⟨rfl, y3⟩, if_pos y3]
      · rw [if_neg (fun q => y3 q.2), if_neg y3]
    have s32 : ∀ j, mI M32 (g + 20) j = if j = sl then ((cn : Nat) : Int) else mI M (g + 20) j := fun j => by
      rw [f32.2.2.2.2.2.2 _ (show ¬ g + 20 = g by omega), f29.2.2.2.2.2.2 _ (show ¬ g + 20 = g + 1 by omega), mI_ui _ j e23]
      by_cases y3 : j = sl
      · rw [if_pos ⟨rfl, y3⟩, if_pos y3]
      · rw [if_neg (fun q => y3 q.2), if_neg y3]
    have old : ∀ k v, k < cn → v < V → mI M32 (g + 1) (12 * k + v) = mI M (g + 1) (12 * k + v) := fun k v hk hv => by
      rw [n32, if_neg (by omega)]
    have nw : ∀ v, v < 12 → mI M32 (g + 1) (12 * cn + v) = mI M (g + 10 + 2) v := fun v hv => by
      rw [n32, if_pos (by omega), show 12 * cn + v - 12 * cn = v by omega]
    have sq : SLm M32 g V (cn + 1) := by
      refine ⟨SLq.put (h := h) (t := i9) (sl := mI M (g + 20)) (sm.1.cg (fun k hk => hs9_cg (fun v hv => (old k v hk hv).symm))) ?_ hi9 (by rw [← esl]; exact fsl) bsl (fun j _ => by rw [s32, esl]), fun i j hi hj eq => ?_⟩
      · show hs9 (fun v => mI M32 (g + 1) (12 * cn + v)) V % 1024 = h % 1024
        rw [hh, hs9_cg (f := fun v => mI M32 (g + 1) (12 * cn + v)) (f' := fun v => mI M (g + 10 + 2) v) (fun v hv => nw v (by omega))]
      · by_cases yi : i = cn <;> by_cases yj : j = cn
        · omega
        · refine absurd (fun v hv => ?_) (nom j (by omega))
          rw [← old j v (by omega) hv, ← eq v hv, yi]
          exact nw v (by omega)
        · refine absurd (fun v hv => ?_) (nom i (by omega))
          rw [← old i v (by omega) hv, eq v hv, yj]
          exact nw v (by omega)
        · refine sm.2 i j (by omega) (by omega) (fun v hv => ?_)
          rw [← old i v (by omega) hv, ← old j v (by omega) hv]
          exact eq v hv
    refine ⟨?_, Or.inr ⟨nom, Or.inr ⟨by omega, by omega, c32, sq, nw, fun j hj => by rw [n32, if_neg (by omega)]⟩⟩⟩
    refine ⟨hx.fi o32 (ff.mono (fun x y => by
      have y' : x = g ∨ x = g + 1 ∨ x = g + 20 := y
      show (g ≤ x ∧ x ≤ g + 9) ∨ x = g + 12 ∨ (g + 20 ≤ x ∧ x ≤ g + 22)
      omega)), ff, fun i hi => ?_, cn + 1, c32, by omega, by omega, fun i hi => ?_, Or.inr ⟨by omega, by omega⟩, ⟨by omega, by omega⟩, fun t => absurd t (by omega)⟩
    · rw [mI_ui g i e32, if_neg (fun u => hi u.2), f29.2.2.2.2.2.2 g (show ¬ g = g + 1 by omega), f23.2.2.2.2.2.2 g (show ¬ g = g + 20 by omega)]
    · rw [f32.2.2.2.2.2.2 _ (show ¬ g + 20 = g by omega), f29.2.2.2.2.2.2 _ (show ¬ g + 20 = g + 1 by omega), mI_ui _ i e23]
      by_cases y0 : i = sl
      · rw [if_pos ⟨rfl, y0⟩]
        exact Or.inr ⟨by omega, by omega⟩
      · rw [if_neg (fun u => y0 u.2)]
        rcases hs i hi with u | u
        · exact Or.inl u
        · exact Or.inr ⟨u.1, by omega⟩
  have nof : ∀ i, i < 1024 → (∀ t', t' < i → ∃ k : Nat, k < cn ∧ mI M (g + 20) ((h + t') % 1024) = (k : Int) ∧ ¬ mtk M g V k) → mI M (g + 20) ((h + i) % 1024) = -1 → ∀ k, k < cn → ¬ mtk M g V k := fun i hi bf fr k hk mt => by
    have eh : hs9 (fun v => mI M (g + 1) (12 * k + v)) V = h := by rw [hh]; exact hs9_cg mt
    have st := sm.1.step (t := i) hk hi (fun t' ht' => by
      show mI M (g + 20) ((hs9 (fun v => mI M (g + 1) (12 * k + v)) V + t') % 1024) ≠ (k : Int)
      rw [eh]
      obtain ⟨k', a1, a2, a3⟩ := bf t' ht'
      intro w
      rw [a2] at w
      have : k' = k := by omega
      rw [this] at a3
      exact a3 mt)
    have st : mI M (g + 20) ((hs9 (fun v => mI M (g + 1) (12 * k + v)) V + i) % 1024) ≠ -1 := st
    rw [eh] at st
    exact st fr
  intro t
  induction t with
  | zero =>
    intro i hi hi2 bf
    obtain ⟨t0, a1, a2⟩ := sm.1.free (h := h) (by omega)
    obtain ⟨k, k1, k2, -⟩ := bf t0 (by omega)
    rw [k2] at a2
    omega
  | succ t ih =>
    intro i hi hi2 bf
    obtain ⟨sl, esl⟩ : ∃ sl, sl = (h + i) % 1024 := ⟨_, rfl⟩
    have hsl : sl < 1024 := by rw [esl]; exact md _
    have i10 : i < 1024 := by
      by_cases u : i = 1024
      · obtain ⟨t0, a1, a2⟩ := sm.1.free (h := h) (by omega)
        obtain ⟨k, k1, k2, -⟩ := bf t0 (by omega)
        rw [k2] at a2
        omega
      · omega
    rw [← esl]
    refine k_Ga_enter_51 h1 (i32s (by omega) (by omega)) (i32s (by omega) (by omega)) ⟨fun _ => ⟨g0, by rw [g16]; exact k20, by rw [g16, n20]; omega⟩, fun y => ?_, fun y => ?_⟩
    · rw [g16, Int.toNat_natCast] at y
      have fsl : mI M (g + 20) sl = -1 := y.resolve_left (by omega)
      have nn := nof i i10 bf (by rw [← esl]; exact fsl)
      exact new hsl i10 esl fsl (fun t' ht' => by
        obtain ⟨k, k1, k2, -⟩ := bf t' ht'
        rw [k2]
        omega) nn
    rw [g16, Int.toNat_natCast] at y
    have y1 : mI M (g + 20) sl ≠ -1 := fun u => y (Or.inr u)
    obtain ⟨k, kc, ek⟩ := (sm.1.1 sl hsl).resolve_left y1
    rw [g16, n20, Int.toNat_natCast, ek]
    refine ⟨g0, k20, by omega, (x_Ga_isNext hx (by omega)).mono (fun r M' q => ?_)⟩
    obtain ⟨e, hr, hm⟩ := q
    subst e
    rw [g16, n20, ek]
    have ia := i_and (x := (sl : Int) + 1) 10 (by decide) 1023 (by decide) ⟨by decide, by decide⟩
    have p10 : (2 : Int) ^ 10 = 1024 := by decide
    rw [p10] at ia
    have es2 : andI ((sl : Int) + 1) 1023 = (((h + (i + 1)) % 1024 : Nat) : Int) := by rw [ia]; omega
    refine ⟨m_b32 hr, h1, fun r0 => ?_, fun r1 => ⟨g0, k20, by omega, ⟨hx, FI.refl, fun _ _ => rfl, cn, hc, Nat.le_refl _, hcn, hs, Or.inr ⟨by omega, by omega⟩, ⟨by omega, by omega⟩, fun t => absurd t (by omega)⟩, Or.inl ⟨k, kc, hm.mp (by omega), rfl, rfl⟩⟩⟩
    rw [es2, show ((i : Int) + 1) = ((i + 1 : Nat) : Int) by omega]
    refine ih (i + 1) (by omega) (by omega) (fun t' ht' => ?_)
    by_cases y2 : t' = i
    · rw [y2, ← esl]
      exact ⟨k, kc, ek, fun mt => by have := hm.mpr mt; omega⟩
    · exact bf t' (by omega)
theorem x_Ga_enter (hx : GY U w9 M0 z g p O P K V F ns sf ef L cnt Ab0 Be0 C0 M Ab Be C) (hc : mI M g 0 = ((cn : Nat) : Int)) (hcn : cn ≤ 512) (sm : SLm M g V cn) : Ci G y_Ga_enter (d + 2) [vr g] M (fun r M' => enG U w9 M0 z g p O P K V F ns sf ef L cnt Ab0 Be0 C0 M Ab Be C cn r M' ∧ enX M g V cn r M') := by
  obtain ⟨h1, h2, h3, h4, h5, -⟩ := id hx
  obtain ⟨g0, ⟨g1, -, -, -, -, -, -, -, -, g15, g16, -⟩, -, -⟩ := h2
  obtain ⟨p5, p6⟩ := h4.2.2.1
  have m0 := h3.1
  have m5 := h3.2.1.2.1
  have km := h3.2.2.1.2.1
  have nm := h3.2.2.2.1.1
  refine k_Ga_enter h1 ?_
  suffices HH : ∀ (t i : Nat) (x : Int), V ≤ i + t → i ≤ V → i32 x → x = hq9 (fun v => mI M (g + 10 + 2) v) i → h_Ga_enter_4 G (d + 1) g x i M (fun r M' => enG U w9 M0 z g p O P K V F ns sf ef L cnt Ab0 Be0 C0 M Ab Be C cn r M' ∧ enX M g V cn r M') from HH V 0 0 (by omega) (by omega) ⟨by decide, by decide⟩ rfl
  have fin : h_Ga_enter_51 G (d + 1) g (andI (xorI (hq9 (fun v => mI M (g + 10 + 2) v) V) (ushrI (hq9 (fun v => mI M (g + 10 + 2) v) V) 15)) 1023) 0 M (fun r M' => enG U w9 M0 z g p O P K V F ns sf ef L cnt Ab0 Be0 C0 M Ab Be C cn r M' ∧ enX M g V cn r M') := by
    have ia := i_and (x := xorI (hq9 (fun v => mI M (g + 10 + 2) v) V) (ushrI (hq9 (fun v => mI M (g + 10 + 2) v) V) 15)) 10 (by decide) 1023 (by decide) ⟨by decide, by decide⟩
    have p10 : (2 : Int) ^ 10 = 1024 := by decide
    rw [p10] at ia
    have es : andI (xorI (hq9 (fun v => mI M (g + 10 + 2) v) V) (ushrI (hq9 (fun v => mI M (g + 10 + 2) v) V) 15)) 1023 = (((hs9 (fun v => mI M (g + 10 + 2) v) V + 0) % 1024 : Nat) : Int) := by
      unfold hs9
      rw [ia]
      omega
    rw [es]
    exact x_en51 hx hc hcn sm rfl 1024 0 (by omega) (by omega) (fun t' ht' => absurd ht' (by omega))
  intro t
  induction t with
  | zero =>
    intro i x hi hi2 ix ex
    refine k_Ga_enter_4w h1 ix (i32s (by omega) (by omega)) ?_
    rw [h5.1, p5]
    exact ⟨g0, h4.1.1, fun y0 => by rw [ex, show i = V by omega]; exact fin, fun y => absurd y (by omega)⟩
  | succ t ih =>
    intro i x hi hi2 ix ex
    refine k_Ga_enter_4w h1 ix (i32s (by omega) (by omega)) ?_
    rw [h5.1, p5, g15, m5, nm]
    refine ⟨g0, h4.1.1, fun y0 => by rw [ex, show i = V by omega]; exact fin, fun y => ⟨m0, km, by omega, ?_⟩⟩
    rw [show ((i : Int) + 1) = ((i + 1 : Nat) : Int) by omega]
    refine ih (i + 1) _ (by omega) (by omega) i32_w32 ?_
    rw [ex, Int.toNat_natCast]
    rfl
end GAW
end
