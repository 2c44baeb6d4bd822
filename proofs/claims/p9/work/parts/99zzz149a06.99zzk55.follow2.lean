section
/-! The class's game: follow, the whole; tryCommand. -/
section GAG
variable {G : mG} {d z g p O P K V F L cnt U Ab Be C Ab0 Be0 C0 s h t c cn k u v cc n bc bc0 x a0 br : Nat} {M0 M M' M1 M2 : mM} {ns : Nat → Int} {sf ef : Nat → Nat} {H : Nat → Nat} {S R : Nat → Prop} {sm sh : Int}
theorem pl_fo {r : Int} (hb1 : mI M1 g 13 = ((bc : Nat) : Int)) (hx : GX M0 z g p O P K V F ns sf ef L cnt Ab0 Be0 C0 M Ab Be C) (hf : flF M1 g p bc0 M) (hcn : mI M g 0 = ((cn : Nat) : Int)) (hk : k ≤ cn) (hcn5 : cn ≤ 512) (hsl : SLt M g cn) (hbc : mI M g 13 = ((bc : Nat) : Int)) (hb : bc0 ≤ bc ∧ bc ≤ 4096) (q : plQ M g M') (ir : i32 r) (hr : r ≠ 0) : foQ M0 z g p O P K V F ns sf ef L cnt Ab0 Be0 C0 M1 bc0 k sm r M' := by
  obtain ⟨q1, q2, q3⟩ := q
  have off := ga_off hx
  have nb : ∀ x, x ≠ g → mI M' x = mI M x := fun x hx => q2.2.2.2.2.2.2 x hx
  exact ⟨ir, hf.trans ⟨fun i _ i10 _ => q3 i i10, fun i i2 _ => nb _ (by omega), ⟨nb _ (by omega), nb _ (by omega)⟩, by rw [nb _ (by omega)], fun i hi => nb _ (off i 0 hi (by omega)), fun i _ => ⟨by rw [nb _ (by omega)], by rw [nb _ (by omega)]⟩⟩, ⟨Ab, Be, C, hx.fi q1 (q2.mono (fun x y => Or.inl (by have y' : x = g := y; omega)))⟩, cn, bc, ⟨by rw [q3 0 (by decide)]; exact hcn, hk, hcn5, fun i hi => by rw [nb _ (by omega)]; exact hsl i hi⟩, by rw [q3 13 (by decide)]; exact hbc, hb.1, ⟨hb.2, by omega⟩, fun u => absurd u hr⟩
end GAG
end
section
/-! The class's game: tryCommand. -/
section GAH
variable {G : mG} {d z g p O P K V F L cnt U Ab Be C Ab0 Be0 C0 s h t c cn k u v cc n bc bc0 x a0 br mu cn0 : Nat} {M0 M M' M1 M2 MB : mM} {ns : Nat → Int} {sf ef : Nat → Nat} {H : Nat → Nat} {S R : Nat → Prop} {sm sh : Int}
/-- a command of the game -/
def cmdG (M : mM) (g cn bc c : Nat) : Prop := ∃ x y mu : Nat, mI M (g + 7) c = ((x : Nat) : Int) ∧ mI M (g + 7) (c + 1) = ((y : Nat) : Int) ∧ (x < y ∧ y ≤ x + 8) ∧ y ≤ bc ∧ (∀ i, x ≤ i → i < y → 0 ≤ mI M (g + 8) i ∧ mI M (g + 8) i < cn ∧ 1 ≤ mI M (g + 9) i) ∧ mI M (g + 6) c = ((mu : Nat) : Int) ∧ 1 ≤ mu ∧ mu < 1000000000 ∧ wsm M g x (y - x) = ((mu : Nat) : Int) ∧ 0 ≤ mI M (g + 5) c ∧ mI M (g + 5) c < 60
theorem cmdG.cg {cn' bc' : Nat} (hh : cmdG M g cn bc c) (e7 : mI M' (g + 7) c = mI M (g + 7) c ∧ mI M' (g + 7) (c + 1) = mI M (g + 7) (c + 1)) (e6 : mI M' (g + 6) c = mI M (g + 6) c) (e5 : mI M' (g + 5) c = mI M (g + 5) c) (e8 : ∀ i, i < bc → mI M' (g + 8) i = mI M (g + 8) i ∧ mI M' (g + 9) i = mI M (g + 9) i) (hcn : cn ≤ cn') (hbc : bc ≤ bc') : cmdG M' g cn' bc' c := by
  obtain ⟨x, y, mu, h1, h2, h3, h4, h5, h6, h7, h8, h9, h10⟩ := hh
  refine ⟨x, y, mu, by rw [e7.1]; exact h1, by rw [e7.2]; exact h2, h3, by omega, fun i a b => ?_, by rw [e6]; exact h6, h7, h8, ?_, by rw [e5]; exact h10⟩
  · rw [(e8 i (by omega)).1, (e8 i (by omega)).2]
    obtain ⟨a1, a2, a3⟩ := h5 i a b
    exact ⟨a1, by omega, a3⟩
  · rw [wsm_cg (M := M) _ (fun i a b => (e8 i (by omega)).2)]
    exact h9
/-- the game's tables, up to state k -/
def GT (M : mM) (g cn k cc bc : Nat) : Prop := cc ≤ bc ∧ bc ≤ 4096 ∧ (∀ c, c < cc → cmdG M g cn bc c) ∧ (0 < cc → mI M (g + 7) 0 = 0 ∧ mI M (g + 7) cc = ((bc : Nat) : Int)) ∧ (cc = 0 → bc = 0) ∧ (∀ j, j ≤ k → ∃ x y : Nat, mI M (g + 4) j = ((x : Nat) : Int) ∧ mI M (g + 4) (j + 1) = ((y : Nat) : Int) ∧ x ≤ y ∧ y ≤ cc) ∧ mI M (g + 4) 0 = 0 ∧ mI M (g + 4) (k + 1) = ((cc : Nat) : Int)
/-- what a state was told is one of its commands, or 0; a player's state has a command -/
def GS1 (M : mM) (g j : Nat) : Prop := ∀ x y : Nat, mI M (g + 4) j = ((x : Nat) : Int) → mI M (g + 4) (j + 1) = ((y : Nat) : Int) → (0 ≤ mI M (g + 3) j ∧ (mI M (g + 3) j < ((y : Nat) : Int) - ((x : Nat) : Int) ∨ mI M (g + 3) j = 0)) ∧ ((mI M (g + 2) j = 1 ∨ mI M (g + 2) j = 2) → x < y)
def GS (M : mM) (g k : Nat) : Prop := ∀ j, j ≤ k → GS1 M g j
theorem GS1.cg {j : Nat} (h : GS1 M g j) (e2 : mI M' (g + 2) j = mI M (g + 2) j) (e3 : mI M' (g + 3) j = mI M (g + 3) j) (e4 : mI M' (g + 4) j = mI M (g + 4) j) (e5 : mI M' (g + 4) (j + 1) = mI M (g + 4) (j + 1)) : GS1 M' g j := by
  unfold GS1 at h ⊢
  rw [e2, e3, e4, e5]
  exact h
theorem GS.eq (h : GS M g k) (e : ∀ i, i ≤ 9 ∨ (20 ≤ i ∧ i ≤ 22) → mI M' (g + i) = mI M (g + i)) : GS M' g k := fun j hj => (h j hj).cg (by rw [e 2 (by omega)]) (by rw [e 3 (by omega)]) (by rw [e 4 (by omega)]) (by rw [e 4 (by omega)])
/-- what trying a command comes to -/
def tcQ (M0 : mM) (z g p O P K V F : Nat) (ns : Nat → Int) (sf ef : Nat → Nat) (L cnt Ab0 Be0 C0 : Nat) (MB : mM) (k cn : Nat) (r : Int) (M' : mM) : Prop := i32 r ∧ (∃ Ab Be C, GX M0 z g p O P K V F ns sf ef L cnt Ab0 Be0 C0 M' Ab Be C) ∧ mI M' (g + 10) 9 = mI MB (g + 10) 9 ∧ (r = 0 → ∃ cn' cc' bc' : Nat, (mI M' g 0 = ((cn' : Nat) : Int) ∧ cn ≤ cn' ∧ cn' ≤ 512 ∧ SLt M' g cn') ∧ mI M' g 12 = ((cc' : Nat) : Int) ∧ mI M' g 13 = ((bc' : Nat) : Int) ∧ GT M' g cn' k cc' bc' ∧ GS M' g k)
/-- shares -/
theorem share_ok (hch : chz M g n) (hd : ∀ b, b < n → (mI M (g + 22) b) ∣ ((mu : Nat) : Int)) (hmu : 1 ≤ mu) {b : Nat} (hb : b < n) : 0 ≤ Int.tdiv mu (mI M (g + 22) b) * mI M (g + 21) b ∧ (mI M (g + 21) b ≠ 0 → 1 ≤ Int.tdiv mu (mI M (g + 22) b) * mI M (g + 21) b) := by
  obtain ⟨b1, b2, b3, b4⟩ := hch b hb
  obtain ⟨q, eq⟩ := hd b hb
  have et : Int.tdiv mu (mI M (g + 22) b) = q := by
    rw [eq, Int.tdiv_eq_ediv_of_nonneg (by rw [← eq]; omega)]
    exact Int.mul_ediv_cancel_left _ (by omega)
  have q1 : 1 ≤ q := by
    by_cases y : 1 ≤ q
    · exact y
    · have := Int.mul_le_mul_of_nonneg_left (show q ≤ 0 by omega) (show 0 ≤ mI M (g + 22) b by omega)
      rw [← eq] at this
      omega
  rw [et]
  refine ⟨Int.mul_nonneg (by omega) b1, fun y => ?_⟩
  exact Int.mul_pos (by omega) (by omega)
theorem shS_mono (hch : chz M g n) (hd : ∀ b, b < n → (mI M (g + 22) b) ∣ ((mu : Nat) : Int)) (hmu : 1 ≤ mu) : ∀ (t b : Nat), b + t = n → 0 ≤ shS M g mu b → shS M g mu b ≤ shS M g mu n
  | 0, b, e, _ => by rw [show b = n by omega]; exact Int.le_refl _
  | t + 1, b, e, h0 => by
    have s1 := (share_ok hch hd hmu (b := b) (by omega)).1
    have e1 : shS M g mu (b + 1) = shS M g mu b + Int.tdiv mu (mI M (g + 22) b) * mI M (g + 21) b := rfl
    have := shS_mono hch hd hmu t (b + 1) (by omega) (by rw [e1]; omega)
    rw [e1] at this
    omega
end GAH
end
section
/-! The class's game: tryCommand, the whole; lookAt. -/
section GAI
variable {G : mG} {d z g p O P K V F L cnt U w9 Ab Be C Ab0 Be0 C0 s h t c cn k u v cc n bc bc0 x a0 br mu cn0 : Nat} {M0 M M' M1 M2 MB : mM} {ns : Nat → Int} {sf ef : Nat → Nat} {H : Nat → Nat} {S R : Nat → Prop} {sm sh : Int}
/-- between two commands of state k -/
def GQ (M : mM) (g cn k cc bc : Nat) : Prop := (mI M g 0 = ((cn : Nat) : Int) ∧ cn ≤ 512 ∧ SLt M g cn) ∧ mI M g 12 = ((cc : Nat) : Int) ∧ mI M g 13 = ((bc : Nat) : Int) ∧ GT M g cn k cc bc
/-- a run changes nothing of it -/
theorem GQ.eq (hq : GQ M g cn k cc bc) (e : ∀ i, i ≤ 9 ∨ (20 ≤ i ∧ i ≤ 22) → mI M' (g + i) = mI M (g + i)) : GQ M' g cn k cc bc := by
  have e0 := e 0 (by omega)
  rw [Nat.add_zero] at e0
  obtain ⟨⟨q1, q2, q3⟩, q4, q5, q6⟩ := hq
  have e4 := e 4 (by omega)
  have e7 := e 7 (by omega)
  refine ⟨⟨by rw [e0]; exact q1, q2, fun i hi => by rw [e 20 (by omega)]; exact q3 i hi⟩, by rw [e0]; exact q4, by rw [e0]; exact q5, ?_⟩
  obtain ⟨t1, t2, t3, t4, t5, t6, t7, t8⟩ := q6
  exact ⟨t1, t2, fun c hc => (t3 c hc).cg ⟨by rw [e7], by rw [e7]⟩ (by rw [e 6 (by omega)]) (by rw [e 5 (by omega)]) (fun i _ => ⟨by rw [e 8 (by omega)], by rw [e 9 (by omega)]⟩) (Nat.le_refl _) (Nat.le_refl _), by rw [e7]; exact t4, t5, by rw [e4]; exact t6, by rw [e4]; exact t7, by rw [e4]; exact t8⟩
theorem tcQ_eq {M3 : mM} (e : mI MB (g + 10) 9 = mI M3 (g + 10) 9) : tcQ M0 z g p O P K V F ns sf ef L cnt Ab0 Be0 C0 MB k cn = tcQ M0 z g p O P K V F ns sf ef L cnt Ab0 Be0 C0 M3 k cn := by
  funext r M'
  unfold tcQ
  rw [e]
end GAI
end
section
/-! The class's game: discover. -/
section GAJ
variable {G : mG} {d z g p O P K V F L cnt U w9 Ab Be C Ab0 Be0 C0 s h t c cn k u v cc n bc bc0 x a0 br mu cn0 : Nat} {M0 M M' M1 M2 MB : mM} {ns : Nat → Int} {sf ef : Nat → Nat} {H : Nat → Nat} {S R : Nat → Prop} {sm sh : Int}
/-- all states are found: a game of cn states -/
def GE (M : mM) (g cn : Nat) : Prop := ∃ cc bc : Nat, 1 ≤ cn ∧ GQ M g cn (cn - 1) cc bc ∧ GS M g (cn - 1)
/-- what discover comes to -/
def dcQ (M0 : mM) (z g p O P K V F : Nat) (ns : Nat → Int) (sf ef : Nat → Nat) (L cnt Ab0 Be0 C0 : Nat) (st : Int) (r : Int) (M' : mM) : Prop := i32 r ∧ (∃ U w9 Ab Be C, (U = g + 1 ∨ U = g + 11) ∧ GY U w9 M0 z g p O P K V F ns sf ef L cnt Ab0 Be0 C0 M' Ab Be C) ∧ (mI M' (g + 10) 9 ≤ st + 512 ∧ st ≤ mI M' (g + 10) 9) ∧ (r = 0 → ∃ cn : Nat, GE M' g cn) ∧ (r ≠ 0 → mI M' g 0 = 0 ∧ mI M' g 12 = 0 ∧ mI M' g 13 = 0)
end GAJ
end
section
/-! The class's game: discover, the whole. -/
section GAK
variable {G : mG} {d z g p O P K V F L cnt U w9 Ab Be C Ab0 Be0 C0 s h t c cn k u v cc n bc bc0 x a0 br mu cn0 : Nat} {M0 M M' M1 M2 MB : mM} {ns : Nat → Int} {sf ef : Nat → Nat} {H : Nat → Nat} {S R : Nat → Prop} {sm sh : Int}
/-- the game at rest, and a program to explore -/
def GZ (M : mM) (z g p O P K V F : Nat) (ns : Nat → Int) (sf ef : Nat → Nat) (L cnt U Ab Be C : Nat) : Prop := mOk M ∧ GK M g ∧ MK M z (g + 10) U Ab Be C ∧ (U = g + 1 ∨ U = g + 11) ∧ PW M z p O P K V F ns sf ef L cnt ∧ (g + 23 ≤ z ∧ (g + 22 < p ∨ p + 15 < g) ∧ (O ≠ Ab ∧ O ≠ Be ∧ P ≠ Ab ∧ P ≠ Be)) ∧ (∀ x, x < 60 → mI M (g + 15) x ≤ mI M (g + 10) 9) ∧ (0 ≤ mI M (g + 10) 9 ∧ mI M (g + 10) 9 < 100000000)
end GAK
end
