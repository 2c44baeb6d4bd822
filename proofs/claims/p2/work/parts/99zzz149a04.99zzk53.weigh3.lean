section
/-! The class's game: weighChances, the whole. -/
section GAE
variable {G : mG} {d z g p O P K V F L cnt U Ab Be C Ab0 Be0 C0 s h t c cn k u v cc n : Nat} {M0 M M' M1 M2 : mM} {ns : Nat → Int} {sf ef : Nat → Nat} {H : Nat → Nat} {S R : Nat → Prop}
/-- cells that a run leaves alone -/
theorem ga_ce (hx : GX M0 z g p O P K V F ns sf ef L cnt Ab0 Be0 C0 M Ab Be C) (f : FA (mcS (g + 10) Ab Be) (fun x => x = g + 10) M M') : (∀ i, i ≤ 9 ∨ (20 ≤ i ∧ i ≤ 22) → mI M' (g + i) = mI M (g + i)) ∧ (∀ i, i ≤ 15 → mI M' (p + i) = mI M (p + i)) := by
  have ne := hx.ne
  obtain ⟨-, -, h3, h4, -, ⟨h61, h62, h63⟩, -⟩ := hx
  obtain ⟨a1, a2, -, -⟩ := h3.2.2.2.2.2.1
  have z1 := h3.2.2.2.2.2.2.1.1
  have o4 := h4.1.2.2.2.1.2.2.2
  clear h3 h4
  refine ⟨fun i hi => (f.2 (g + i) (by omega)).2.2.2.2 (fun y => ?_), fun i hi => (f.2 (p + i) (by omega)).2.2.2.2 (fun y => ne.1 i hi ?_)⟩
  · have y' : g + i = g + 10 ∨ g + i = g + 10 + 2 ∨ (g + 10 + 5 ≤ g + i ∧ g + i ≤ g + 10 + 9) ∨ g + i = Ab ∨ g + i = Be := y
    omega
  · have y' : p + i = g + 10 ∨ p + i = g + 10 + 2 ∨ (g + 10 + 5 ≤ p + i ∧ p + i ≤ g + 10 + 9) ∨ p + i = Ab ∨ p + i = Be := y
    show (g ≤ p + i ∧ p + i ≤ g + 22) ∨ p + i = Ab ∨ p + i = Be
    omega
theorem ga_wg (hx : GX M0 z g p O P K V F ns sf ef L cnt Ab0 Be0 C0 M Ab Be C) (f : FA (mcS (g + 10) Ab Be) (fun x => x = g + 10) M M') (h9 : mI M' (g + 10) 9 = mI M (g + 10) 9) : wgF M g M' := by
  obtain ⟨e1, -⟩ := ga_ce hx f
  have e0 := e1 0 (by omega)
  rw [Nat.add_zero] at e0
  exact ⟨fun i _ => by rw [e0], fun i _ i9 _ => e1 i (by omega), e1 20 (by omega), fun i _ => by rw [e1 6 (by omega)], h9⟩
end GAE
end
section
/-! The class's game: a branch is followed. -/
section GAF
variable {G : mG} {d z g p O P K V F L cnt U Ab Be C Ab0 Be0 C0 s h t c cn k u v cc n bc bc0 x a0 : Nat} {M0 M M' M1 M2 : mM} {ns : Nat → Int} {sf ef : Nat → Nat} {H : Nat → Nat} {S R : Nat → Prop} {sm sh : Int}
/-- the sum of the weights from x on -/
def wsm (M : mM) (g x : Nat) : Nat → Int
  | 0 => 0
  | i + 1 => wsm M g x i + mI M (g + 9) (x + i)
theorem wsm_cg : ∀ n, (∀ i, x ≤ i → i < x + n → mI M' (g + 9) i = mI M (g + 9) i) → wsm M' g x n = wsm M g x n
  | 0, _ => rfl
  | n + 1, hh => by
    show wsm M' g x n + mI M' (g + 9) (x + n) = wsm M g x n + mI M (g + 9) (x + n)
    rw [wsm_cg n (fun i h1 h2 => hh i h1 (by omega)), hh (x + n) (by omega) (by omega)]
theorem wsm_add (he : ∀ i, mI M' (g + 9) i = if i = a0 then mI M (g + 9) a0 + sh else mI M (g + 9) i) (hx : x ≤ a0) : ∀ n, wsm M' g x n = if a0 < x + n then wsm M g x n + sh else wsm M g x n
  | 0 => by
    rw [if_neg (by omega)]
    rfl
  | n + 1 => by
    show wsm M' g x n + mI M' (g + 9) (x + n) = _
    rw [wsm_add he hx n, he]
    have e : wsm M g x (n + 1) = wsm M g x n + mI M (g + 9) (x + n) := rfl
    by_cases y : a0 = x + n
    · rw [if_neg (by omega), if_pos y.symm, if_pos (by omega), e, ← y]
      omega
    · have y3 : ¬ x + n = a0 := fun t => y t.symm
      by_cases y2 : a0 < x + n
      · rw [if_pos y2, if_neg y3, if_pos (by omega), e]
        omega
      · rw [if_neg y2, if_neg y3, if_neg (by omega), e]
theorem wsm_ge (hw : ∀ i, x ≤ i → i < x + n → 1 ≤ mI M (g + 9) i) : ∀ m, m ≤ n → (m : Int) ≤ wsm M g x m
  | 0, _ => Int.le_refl _
  | m + 1, hm => by
    have e : wsm M g x (m + 1) = wsm M g x m + mI M (g + 9) (x + m) := rfl
    have := wsm_ge hw m (by omega)
    have := hw (x + m) (by omega) (by omega)
    rw [e]
    omega
theorem wsm_le (hw : ∀ i, x ≤ i → i < x + n → 1 ≤ mI M (g + 9) i) : ∀ m, m ≤ n → ∀ i, x ≤ i → i < x + m → mI M (g + 9) i ≤ wsm M g x m
  | 0, _, i, h1, h2 => absurd h2 (by omega)
  | m + 1, hm, i, h1, h2 => by
    have e : wsm M g x (m + 1) = wsm M g x m + mI M (g + 9) (x + m) := rfl
    have := wsm_ge hw m (by omega)
    have := hw (x + m) (by omega) (by omega)
    rw [e]
    by_cases y : i = x + m
    · rw [y]; omega
    · have := wsm_le hw m (by omega) i h1 (by omega)
      omega
/-- a command in progress: branches from bc0 to bc, of sum sm -/
def ipG (M : mM) (g cn bc0 bc : Nat) (sm : Int) : Prop := bc0 ≤ bc ∧ bc ≤ 4096 ∧ (∀ i, bc0 ≤ i → i < bc → 0 ≤ mI M (g + 8) i ∧ mI M (g + 8) i < cn ∧ 1 ≤ mI M (g + 9) i) ∧ wsm M g bc0 (bc - bc0) = sm
/-- what following may change -/
def flF (M : mM) (g p : Nat) (bc0 : Nat) (M' : mM) : Prop := (∀ i, i ≠ 0 → i ≠ 10 → i ≠ 13 → mI M' g i = mI M g i) ∧ (∀ i, 2 ≤ i → i ≤ 7 → mI M' (g + i) = mI M (g + i)) ∧ (mI M' (g + 21) = mI M (g + 21) ∧ mI M' (g + 22) = mI M (g + 22)) ∧ mI M' (g + 10) 9 = mI M (g + 10) 9 ∧ (∀ i, i ≤ 15 → mI M' (p + i) = mI M (p + i)) ∧ (∀ i, i < bc0 → mI M' (g + 8) i = mI M (g + 8) i ∧ mI M' (g + 9) i = mI M (g + 9) i)
theorem flF.refl : flF M g p bc0 M := ⟨fun _ _ _ _ => rfl, fun _ _ _ => rfl, ⟨rfl, rfl⟩, rfl, fun _ _ => rfl, fun _ _ => ⟨rfl, rfl⟩⟩
theorem flF.trans (f : flF M g p bc0 M1) (k : flF M1 g p bc0 M2) : flF M g p bc0 M2 := by
  obtain ⟨f1, f2, ⟨f3, f4⟩, f5, f6, f7⟩ := f
  obtain ⟨g1, g2, ⟨g3, g4⟩, g5, g6, g7⟩ := k
  exact ⟨fun i a b c => by rw [g1 i a b c, f1 i a b c], fun i a b => by rw [g2 i a b, f2 i a b], ⟨by rw [g3, f3], by rw [g4, f4]⟩, by rw [g5, f5], fun i hi => by rw [g6 i hi, f6 i hi], fun i hi => ⟨by rw [(g7 i hi).1, (f7 i hi).1], by rw [(g7 i hi).2, (f7 i hi).2]⟩⟩
/-- what following a branch comes to -/
def foQ (M0 : mM) (z g p O P K V F : Nat) (ns : Nat → Int) (sf ef : Nat → Nat) (L cnt Ab0 Be0 C0 : Nat) (MB : mM) (bc0 : Nat) (cn : Nat) (sm : Int) (r : Int) (M' : mM) : Prop := i32 r ∧ flF MB g p bc0 M' ∧ (∃ Ab Be C, GX M0 z g p O P K V F ns sf ef L cnt Ab0 Be0 C0 M' Ab Be C) ∧ ∃ cn' bc' : Nat, (mI M' g 0 = ((cn' : Nat) : Int) ∧ cn ≤ cn' ∧ cn' ≤ 512 ∧ SLt M' g cn') ∧ mI M' g 13 = ((bc' : Nat) : Int) ∧ bc0 ≤ bc' ∧ (bc' ≤ 4096 ∧ ((bc' : Nat) : Int) ≤ mI MB g 13 + 1) ∧ (r = 0 → ipG M' g cn' bc0 bc' sm)
theorem ga_off (hx : GX M0 z g p O P K V F ns sf ef L cnt Ab0 Be0 C0 M Ab Be C) : ∀ i j, i ≤ 15 → j ≤ 22 → p + i ≠ g + j := fun i j hi hj => by
  have := hx.2.2.2.2.2.1.2.1
  omega
end GAF
end
section
/-! The class's game: follow, the whole; tryCommand. -/
section GAG
variable {G : mG} {d z g p O P K V F L cnt U Ab Be C Ab0 Be0 C0 s h t c cn k u v cc n bc bc0 x a0 br : Nat} {M0 M M' M1 M2 : mM} {ns : Nat → Int} {sf ef : Nat → Nat} {H : Nat → Nat} {S R : Nat → Prop} {sm sh : Int}
theorem pl_fo {r : Int} (hb1 : mI M1 g 13 = ((bc : Nat) : Int)) (hx : GX M0 z g p O P K V F ns sf ef L cnt Ab0 Be0 C0 M Ab Be C) (hf : flF M1 g p bc0 M) (hcn : mI M g 0 = ((cn : Nat) : Int)) (hk : k ≤ cn) (hcn5 : cn ≤ 512) (hsl : SLt M g cn) (hbc : mI M g 13 = ((bc : Nat) : Int)) (hb : bc0 ≤ bc ∧ bc ≤ 4096) (q : plQ M g M') (ir : i32 r) (hr : r ≠ 0) : foQ M0 z g p O P K V F ns sf ef L cnt Ab0 Be0 C0 M1 bc0 k sm r M' := by
  obtain ⟨q1, q2, q3⟩ := q
  have off := ga_off hx
  have nb : ∀ x, x ≠ g → mI M' x = mI M x := fun x hx => q2.2.2.2.2.2.2 x hx
  exact ⟨ir, hf.trans ⟨fun i _ i10 _ => q3 i i10, fun i i2 _ => nb _ (by omega), ⟨nb _ (by omega), nb _ (by omega)⟩, by rw [nb _ (by omega)], fun i hi => nb _ (off i 0 hi (by omega)), fun i _ => ⟨by rw [nb _ (by omega)], by rw [nb _ (by omega)]⟩⟩, ⟨Ab, Be, C, hx.fi q1 (q2.mono (fun x y => Or.inl (by have y' : x = g := y; omega)))⟩, cn, bc, ⟨by rw [q3 0 (by decide)]; exact hcn, hk, hcn5, fun i hi => by rw [nb _ (by omega)]; exact hsl i hi⟩, by rw [q3 13 (by decide)]; exact hbc, hb.1, ⟨hb.2, by omega⟩, fun u => absurd u hr⟩
end GAG
end
section
/-! The class's game: tryCommand. -/
section GAH
variable {G : mG} {d z g p O P K V F L cnt U Ab Be C Ab0 Be0 C0 s h t c cn k u v cc n bc bc0 x a0 br mu cn0 : Nat} {M0 M M' M1 M2 MB : mM} {ns : Nat → Int} {sf ef : Nat → Nat} {H : Nat → Nat} {S R : Nat → Prop} {sm sh : Int}
/-- a command of the game -/
def cmdG (M : mM) (g cn bc c : Nat) : Prop := ∃ x y mu : Nat, mI M (g + 7) c = ((x : Nat) : Int) ∧ mI M (g + 7) (c + 1) = ((y : Nat) : Int) ∧ (x < y ∧ y ≤ x + 8) ∧ y ≤ bc ∧ (∀ i, x ≤ i → i < y → 0 ≤ mI M (g + 8) i ∧ mI M (g + 8) i < cn ∧ 1 ≤ mI M (g + 9) i) ∧ mI M (g + 6) c = ((mu : Nat) : Int) ∧ 1 ≤ mu ∧ mu < 1000000000 ∧ wsm M g x (y - x) = ((mu : Nat) : Int) ∧ 0 ≤ mI M (g + 5) c ∧ mI M (g + 5) c < 60
theorem cmdG.cg {cn' bc' : Nat} (hh : cmdG M g cn bc c) (e7 : mI M' (g + 7) c = mI M (g + 7) c ∧ mI M' (g + 7) (c + 1) = mI M (g + 7) (c + 1)) (e6 : mI M' (g + 6) c = mI M (g + 6) c) (e5 : mI M' (g + 5) c = mI M (g + 5) c) (e8 : ∀ i, i < bc → mI M' (g + 8) i = mI M (g + 8) i ∧ mI M' (g + 9) i = mI M (g + 9) i) (hcn : cn ≤ cn') (hbc : bc ≤ bc') : cmdG M' g cn' bc' c := by
  obtain ⟨x, y, mu, h1, h2, h3, h4, h5, h6, h7, h8, h9, h10⟩ := hh
  refine ⟨x, y, mu, by rw [e7.1]; exact h1, by rw [e7.2]; exact h2, h3, by omega, fun i a b => ?_, by rw [e6]; exact h6, h7, h8, ?_, by rw [e5]; exact h10⟩
  · rw [(e8 i (by omega)).1, (e8 i (by omega)).2]
    obtain ⟨a1, a2, a3⟩ := h5 i a b
    exact ⟨a1, by omega, a3⟩
  · rw [wsm_cg (M := M) _ (fun i a b => (e8 i (by omega)).2)]
    exact h9
/-- the game's tables, up to state k -/
def GT (M : mM) (g cn k cc bc : Nat) : Prop := cc ≤ bc ∧ bc ≤ 4096 ∧ (∀ c, c < cc → cmdG M g cn bc c) ∧ (0 < cc → mI M (g + 7) 0 = 0 ∧ mI M (g + 7) cc = ((bc : Nat) : Int)) ∧ (cc = 0 → bc = 0) ∧ (∀ j, j ≤ k → ∃ x y : Nat, mI M (g + 4) j = ((x : Nat) : Int) ∧ mI M (g + 4) (j + 1) = ((y : Nat) : Int) ∧ x ≤ y ∧ y ≤ cc) ∧ mI M (g + 4) 0 = 0 ∧ mI M (g + 4) (k + 1) = ((cc : Nat) : Int)
/-- what a state was told is one of its commands, or 0; a player's state has a command -/
def GS1 (M : mM) (g j : Nat) : Prop := ∀ x y : Nat, mI M (g + 4) j = ((x : Nat) : Int) → mI M (g + 4) (j + 1) = ((y : Nat) : Int) → (0 ≤ mI M (g + 3) j ∧ (mI M (g + 3) j < ((y : Nat) : Int) - ((x : Nat) : Int) ∨ mI M (g + 3) j = 0)) ∧ ((mI M (g + 2) j = 1 ∨ mI M (g + 2) j = 2) → x < y)
def GS (M : mM) (g k : Nat) : Prop := ∀ j, j ≤ k → GS1 M g j
theorem GS1.cg {j : Nat} (h : GS1 M g j) (e2 : mI M' (g + 2) j = mI M (g + 2) j) (e3 : mI M' (g + 3) j = mI M (g + 3) j) (e4 : mI M' (g + 4) j = mI M (g + 4) j) (e5 : mI M' (g + 4) (j + 1) = mI M (g + 4) (j + 1)) : GS1 M' g j := by
  unfold GS1 at h ⊢
  rw [e2, e3, e4, e5]
  exact h
theorem GS.eq (h : GS M g k) (e : ∀ i, i ≤ 9 ∨ (20 ≤ i ∧ i ≤ 22) → mI M' (g + i) = mI M (g + i)) : GS M' g k := fun j hj => (h j hj).cg (by rw [e 2 (by omega)]) (by rw [e 3 (by omega)]) (by rw [e 4 (by omega)]) (by rw [e 4 (by omega)])
/-- what trying a command comes to -/
def tcQ (M0 : mM) (z g p O P K V F : Nat) (ns : Nat → Int) (sf ef : Nat → Nat) (L cnt Ab0 Be0 C0 : Nat) (MB : mM) (k cn : Nat) (r : Int) (M' : mM) : Prop := i32 r ∧ (∃ Ab Be C, GX M0 z g p O P K V F ns sf ef L cnt Ab0 Be0 C0 M' Ab Be C) ∧ mI M' (g + 10) 9 = mI MB (g + 10) 9 ∧ (r = 0 → ∃ cn' cc' bc' : Nat, (mI M' g 0 = ((cn' : Nat) : Int) ∧ cn ≤ cn' ∧ cn' ≤ 512 ∧ SLt M' g cn') ∧ mI M' g 12 = ((cc' : Nat) : Int) ∧ mI M' g 13 = ((bc' : Nat) : Int) ∧ GT M' g cn' k cc' bc' ∧ GS M' g k)
/-- shares -/
theorem share_ok (hch : chz M g n) (hd : ∀ b, b < n → (mI M (g + 22) b) ∣ ((mu : Nat) : Int)) (hmu : 1 ≤ mu) {b : Nat} (hb : b < n) : 0 ≤ Int.tdiv mu (mI M (g + 22) b) * mI M (g + 21) b ∧ (mI M (g + 21) b ≠ 0 → 1 ≤ Int.tdiv mu (mI M (g + 22) b) * mI M (g + 21) b) := by
  obtain ⟨b1, b2, b3, b4⟩ := hch b hb
  obtain ⟨q, eq⟩ := hd b hb
  have et : Int.tdiv mu (mI M (g + 22) b) = q := by
    rw [eq, Int.tdiv_eq_ediv_of_nonneg (by rw [← eq]; omega)]
    exact Int.mul_ediv_cancel_left _ (by omega)
  have q1 : 1 ≤ q := by
    by_cases y : 1 ≤ q
    · exact y
    · have := Int.mul_le_mul_of_nonneg_left (show q ≤ 0 by omega) (show 0 ≤ mI M (g + 22) b by omega)
      rw [← eq] at this
      omega
  rw [et]
  refine ⟨Int.mul_nonneg (by omega) b1, fun y => ?_⟩
  exact Int.mul_pos (by omega) (by omega)
theorem shS_mono (hch : chz M g n) (hd : ∀ b, b < n → (mI M (g + 22) b) ∣ ((mu : Nat) : Int)) (hmu : 1 ≤ mu) : ∀ (t b : Nat), b + t = n → 0 ≤ shS M g mu b → shS M g mu b ≤ shS M g mu n
  | 0, b, e, _ => by rw [show b = n by omega]; exact Int.le_refl _
  | t + 1, b, e, h0 => by
    have s1 := (share_ok hch hd hmu (b := b) (by omega)).1
    have e1 : shS M g mu (b + 1) = shS M g mu b + Int.tdiv mu (mI M (g + 22) b) * mI M (g + 21) b := rfl
    have := shS_mono hch hd hmu t (b + 1) (by omega) (by rw [e1]; omega)
    rw [e1] at this
    omega
end GAH
end
section
/-! The class's game: tryCommand, the whole; lookAt. -/
section GAI
variable {G : mG} {d z g p O P K V F L cnt U w9 Ab Be C Ab0 Be0 C0 s h t c cn k u v cc n bc bc0 x a0 br mu cn0 : Nat} {M0 M M' M1 M2 MB : mM} {ns : Nat → Int} {sf ef : Nat → Nat} {H : Nat → Nat} {S R : Nat → Prop} {sm sh : Int}
/-- between two commands of state k -/
def GQ (M : mM) (g cn k cc bc : Nat) : Prop := (mI M g 0 = ((cn : Nat) : Int) ∧ cn ≤ 512 ∧ SLt M g cn) ∧ mI M g 12 = ((cc : Nat) : Int) ∧ mI M g 13 = ((bc : Nat) : Int) ∧ GT M g cn k cc bc
/-- a run changes nothing of it -/
theorem GQ.eq (hq : GQ M g cn k cc bc) (e : ∀ i, i ≤ 9 ∨ (20 ≤ i ∧ i ≤ 22) → mI M' (g + i) = mI M (g + i)) : GQ M' g cn k cc bc := by
  have e0 := e 0 (by omega)
  rw [Nat.add_zero] at e0
  obtain ⟨⟨q1, q2, q3⟩, q4, q5, q6⟩ := hq
  have e4 := e 4 (by omega)
  have e7 := e 7 (by omega)
  refine ⟨⟨by rw [e0]; exact q1, q2, fun i hi => by rw [e 20 (by omega)]; exact q3 i hi⟩, by rw [e0]; exact q4, by rw [e0]; exact q5, ?_⟩
  obtain ⟨t1, t2, t3, t4, t5, t6, t7, t8⟩ := q6
  exact ⟨t1, t2, fun c hc => (t3 c hc).cg ⟨by rw [e7], by rw [e7]⟩ (by rw [e 6 (by omega)]) (by rw [e 5 (by omega)]) (fun i _ => ⟨by rw [e 8 (by omega)], by rw [e 9 (by omega)]⟩) (Nat.le_refl _) (Nat.le_refl _), by rw [e7]; exact t4, t5, by rw [e4]; exact t6, by rw [e4]; exact t7, by rw [e4]; exact t8⟩
theorem tcQ_eq {M3 : mM} (e : mI MB (g + 10) 9 = mI M3 (g + 10) 9) : tcQ M0 z g p O P K V F ns sf ef L cnt Ab0 Be0 C0 MB k cn = tcQ M0 z g p O P K V F ns sf ef L cnt Ab0 Be0 C0 M3 k cn := by
  funext r M'
  unfold tcQ
  rw [e]
end GAI
end
section
/-! The class's game: discover. -/
section GAJ
variable {G : mG} {d z g p O P K V F L cnt U w9 Ab Be C Ab0 Be0 C0 s h t c cn k u v cc n bc bc0 x a0 br mu cn0 : Nat} {M0 M M' M1 M2 MB : mM} {ns : Nat → Int} {sf ef : Nat → Nat} {H : Nat → Nat} {S R : Nat → Prop} {sm sh : Int}
/-- all states are found: a game of cn states -/
def GE (M : mM) (g cn : Nat) : Prop := ∃ cc bc : Nat, 1 ≤ cn ∧ GQ M g cn (cn - 1) cc bc ∧ GS M g (cn - 1)
/-- what discover comes to -/
def dcQ (M0 : mM) (z g p O P K V F : Nat) (ns : Nat → Int) (sf ef : Nat → Nat) (L cnt Ab0 Be0 C0 : Nat) (st : Int) (r : Int) (M' : mM) : Prop := i32 r ∧ (∃ U w9 Ab Be C, (U = g + 1 ∨ U = g + 11) ∧ GY U w9 M0 z g p O P K V F ns sf ef L cnt Ab0 Be0 C0 M' Ab Be C) ∧ (mI M' (g + 10) 9 ≤ st + 512 ∧ st ≤ mI M' (g + 10) 9) ∧ (r = 0 → ∃ cn : Nat, GE M' g cn) ∧ (r ≠ 0 → mI M' g 0 = 0 ∧ mI M' g 12 = 0 ∧ mI M' g 13 = 0)
end GAJ
end
section
/-! The class's game: discover, the whole. -/
section GAK
variable {G : mG} {d z g p O P K V F L cnt U w9 Ab Be C Ab0 Be0 C0 s h t c cn k u v cc n bc bc0 x a0 br mu cn0 : Nat} {M0 M M' M1 M2 MB : mM} {ns : Nat → Int} {sf ef : Nat → Nat} {H : Nat → Nat} {S R : Nat → Prop} {sm sh : Int}
/-- the game at rest, and a program to explore -/
def GZ (M : mM) (z g p O P K V F : Nat) (ns : Nat → Int) (sf ef : Nat → Nat) (L cnt U Ab Be C : Nat) : Prop := mOk M ∧ GK M g ∧ MK M z (g + 10) U Ab Be C ∧ (U = g + 1 ∨ U = g + 11) ∧ PW M z p O P K V F ns sf ef L cnt ∧ (g + 23 ≤ z ∧ (g + 22 < p ∨ p + 15 < g) ∧ (O ≠ Ab ∧ O ≠ Be ∧ P ≠ Ab ∧ P ≠ Be)) ∧ (∀ x, x < 60 → mI M (g + 15) x ≤ mI M (g + 10) 9) ∧ (0 ≤ mI M (g + 10) 9 ∧ mI M (g + 10) 9 < 100000000)
end GAK
end
section
/-! The class's game: questions. -/
section GAL
variable {G : mG} {d g c cn k cc bc : Nat} {M M' : mM}
theorem s_Ga_hasState {l : Int} (il : i32 l) (h1 : mOk M) (hk : mK M g = 7) (hc : mI M g 0 = ((cn : Nat) : Int)) : Ci G y_Ga_hasState d [vr g, vi l] M (fun r M' => M' = M ∧ (r = 0 ∨ r = 1) ∧ (r ≠ 0 ↔ (0 ≤ l ∧ l < cn))) := by
  refine k_Ga_hasState h1 il ⟨fun _ => hk, fun v4 e4 => ⟨rfl, ?_⟩⟩
  rw [hc] at e4
  by_cases y : l < 0 ∨ ((cn : Nat) : Int) ≤ l
  · rw [if_pos y] at e4
    rw [e4]
    exact ⟨Or.inl rfl, ⟨fun t => absurd rfl t, fun t => by omega⟩⟩
  · rw [if_neg y] at e4
    rw [e4]
    exact ⟨Or.inr rfl, ⟨fun _ => by omega, fun _ => by decide⟩⟩
/-- the game at rest: no states, or all of them -/
def GR (M : mM) (g cn cc bc : Nat) : Prop := (cn = 0 ∧ mI M g 0 = 0) ∨ (1 ≤ cn ∧ GQ M g cn (cn - 1) cc bc)
theorem s_Ga_commandAt {l1 l2 : Int} (i1 : i32 l1) (i2 : i32 l2) (h1 : mOk M) (hk : GK M g) (hr : GR M g cn cc bc) : Ci G y_Ga_commandAt (d + 1) [vr g, vi l1, vi l2] M (fun r M' => M' = M ∧ i32 r ∧ (r = -1 ∨ (0 ≤ r ∧ r < cc ∧ 1 ≤ cn))) := by
  obtain ⟨g0, ⟨-, -, -, g4, -⟩, ⟨-, -, -, k4, -⟩, ⟨-, -, -, n4, -⟩⟩ := id hk
  have hc : mI M g 0 = ((cn : Nat) : Int) := by
    rcases hr with ⟨e1, e2⟩ | ⟨-, q⟩
    · rw [e1]; exact e2
    · exact q.1.1
  refine k_Ga_commandAt h1 i1 i2 ⟨g0, (s_Ga_hasState i1 h1 g0 hc).mono (fun x3 M2 q => ?_)⟩
  obtain ⟨e2, hx, hiff⟩ := q
  subst e2
  have rows : x3 ≠ 0 → ∃ a b : Nat, mI M2 (g + 4) l1.toNat = ((a : Nat) : Int) ∧ mI M2 (g + 4) (l1 + 1).toNat = ((b : Nat) : Int) ∧ a ≤ b ∧ b ≤ cc ∧ cc ≤ 4096 ∧ 0 ≤ l1 ∧ l1 < 512 ∧ 1 ≤ cn := fun y => by
    have b := hiff.mp y
    rcases hr with ⟨e1, -⟩ | ⟨c1, q⟩
    · omega
    · obtain ⟨⟨-, q2, -⟩, -, -, t1, t2, -, -, -, t6, -⟩ := q
      obtain ⟨x, y', f1, f2, f3, f4⟩ := t6 l1.toNat (by omega)
      exact ⟨x, y', f1, by rw [show (l1 + 1).toNat = l1.toNat + 1 by omega]; exact f2, f3, f4, by omega, b.1, by omega, c1⟩
  clear hr hiff
  rw [g4, n4]
  refine ⟨m_b32 hx, h1, fun y _ => ?_, fun _ => ⟨rfl, ⟨by decide, by decide⟩, Or.inl rfl⟩, fun y => ?_⟩
  · obtain ⟨a, b, f1, f2, f3, f4, f5, f6, f7, f8⟩ := rows y
    rw [f1, f2]
    exact ⟨g0, k4, by omega, by omega, ⟨by omega, by omega⟩⟩
  · have y0 : x3 ≠ 0 := fun t => y (Or.inl t)
    obtain ⟨a, b, f1, f2, f3, f4, f5, f6, f7, f8⟩ := rows y0
    have y1 : 0 ≤ l2 := by
      by_cases t : l2 < 0
      · exact absurd (Or.inr (Or.inl t)) y
      · omega
    have y2 : l2 < mI M2 (g + 4) (Int.toNat (l1 + 1)) - mI M2 (g + 4) (Int.toNat l1) := Classical.byContradiction (fun t => y (Or.inr (Or.inr t)))
    rw [f1, f2] at y2
    rw [f1]
    exact ⟨g0, k4, by omega, rfl, ⟨by omega, by omega⟩, Or.inr ⟨by omega, by omega, f8⟩⟩
theorem s_Ga_drawn {l2 : Int} (i2 : i32 l2) (h1 : mOk M) (hk : GK M g) (hc : c < cc) (hcc : cc ≤ bc) (hbc : bc ≤ 4096) (hcn : cn ≤ 512) (hm : cmdG M g cn bc c) : Ci G y_Ga_drawn d [vr g, vi c, vi l2] M (fun r M' => M' = M ∧ i32 r ∧ (r = -1 ∨ (0 ≤ r ∧ r < cn))) := by
  obtain ⟨g0, ⟨-, -, -, -, -, g6, g7, g8, g9, -⟩, ⟨-, -, -, -, -, k6, k7, k8, k9, -⟩, ⟨-, -, -, -, -, n6, n7, n8, n9, -⟩⟩ := id hk
  obtain ⟨x, y, mu, e1, e2, e3, e4, e5, e6, e7, e8, e9, -⟩ := hm
  have wl : ∀ i, x ≤ i → i < y → mI M (g + 9) i < 1000000000 := fun i a b => by
    have := wsm_le (M := M) (g := g) (x := x) (n := y - x) (fun i a b => (e5 i a (by omega)).2.2) (y - x) (Nat.le_refl _) i a (by omega)
    rw [e9] at this
    omega
  refine k_Ga_drawn h1 (i32s (by omega) (by omega)) i2 ?_
  rw [g6, n6, g7, n7, Int.toNat_natCast, e6, e1]
  refine ⟨g0, k6, by omega, k7, by omega, ?_⟩
  have b3 : i64 (l2 * ((mu : Nat) : Int)) := by
    have n1 : l2.natAbs ≤ 2147483648 := by unfold i32 at i2; omega
    have n2 : (((mu : Nat) : Int)).natAbs ≤ 1000000000 := by omega
    have := mulab n1 n2
    exact ⟨by omega, by omega⟩
  suffices HH : ∀ (t i : Nat) (j5 : Int), y ≤ i + t → x ≤ i → i ≤ y → 0 ≤ j5 → j5 ≤ ((i - x : Nat) : Int) * 1000000000 → h_Ga_drawn_22 G d g c (l2 * ((mu : Nat) : Int)) j5 i M (fun r M' => M' = M ∧ i32 r ∧ (r = -1 ∨ (0 ≤ r ∧ r < cn))) from HH (y - x) x 0 (by omega) (Nat.le_refl _) (by omega) (Int.le_refl _) (by omega)
  intro t
  induction t with
  | zero =>
    intro i j5 h2 h3 h4 h5 h6
    refine k_Ga_drawn_22 h1 (i32s (by omega) (by omega)) b3 ⟨by omega, by omega⟩ (i32s (by omega) (by omega)) ?_
    rw [g7, n7, show Int.toNat ((c : Int) + 1) = c + 1 by omega, e2]
    exact ⟨g0, k7, by omega, fun _ => ⟨rfl, ⟨by decide, by decide⟩, Or.inl rfl⟩, fun u => absurd u (by omega)⟩
  | succ t ih =>
    intro i j5 h2 h3 h4 h5 h6
    refine k_Ga_drawn_22 h1 (i32s (by omega) (by omega)) b3 ⟨by omega, by omega⟩ (i32s (by omega) (by omega)) ?_
    rw [g7, n7, show Int.toNat ((c : Int) + 1) = c + 1 by omega, e2, g8, g9, n8, n9, Int.toNat_natCast]
    refine ⟨g0, k7, by omega, fun _ => ⟨rfl, ⟨by decide, by decide⟩, Or.inl rfl⟩, fun u => ?_⟩
    have iy : i < y := by omega
    obtain ⟨w1, w2, w3⟩ := e5 i h3 iy
    have w4 := wl i h3 iy
    refine ⟨k9, by omega, fun _ => ?_, fun _ => ⟨k8, by omega, rfl, ⟨by omega, by omega⟩, Or.inr ⟨w1, w2⟩⟩⟩
    rw [show ((i : Int) + 1) = ((i + 1 : Nat) : Int) by omega]
    exact ih (i + 1) _ (by omega) (by omega) (by omega) (by omega) (by rw [show i + 1 - x = (i - x) + 1 by omega]; omega)
end GAL
end
