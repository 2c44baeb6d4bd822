/-! The reference: an enabled command, its ways. -/
section ENB
variable {G : mG} {d a g T R W C Z n L w0 k : Nat} {M M2 M' : mM} {E : Nat → Nat} {tg mul : Int} {B : Nat → Nat}
/-- a command has been explored in state k -/
def enQ (M : mM) (a g T R W C Z : Nat) (E : Nat → Nat) (tg : Int) (n L k : Nat) (B : Nat → Nat) (M' : mM) : Prop := xF M a M' ∧ GG M' a g T R W C Z E tg ∧ En M' a g R W ∧ mI M' (a + 107) = mI M (a + 107) ∧ (∀ k', k' ≠ k → mI M' (a + 108) k' = mI M (a + 108) k') ∧ (mI M' a 16 ≠ 0 ∨ (mI M' a 16 = 0 ∧ mI M' (a + 108) k = mI M (a + 108) k + 1 ∧ ∃ (n' w' : Nat) (B' : Nat → Nat), n ≤ n' ∧ (∀ i, i ≤ L → B' i = B i) ∧ B' (L + 1) = w' ∧ XD M' a g n' W (L + 1) w' (L + 1) B'))
/-- the command is complete -/
theorem Op.close {n' w' : Nat} (h : XD M' a g n' W L w' (L + 1) B) (hw0 : B L = w0) (op : Op M' a L w0 w' mul mul) (h8 : w' ≤ w0 + 8) : ∃ B' : Nat → Nat, (∀ i, i ≤ L → B' i = B i) ∧ B' (L + 1) = w' ∧ XD M' a g n' W (L + 1) w' (L + 1) B' := by
  obtain ⟨p1, p2, p3, p4, p5⟩ := op
  have ne : w0 < w' := by
    by_cases z : w0 < w'
    · exact z
    · rw [show w' - w0 = 0 by omega] at p5
      have : (0 : Int) = mul := p5
      omega
  obtain ⟨B', hB⟩ : ∃ B' : Nat → Nat, ∀ i, B' i = if i ≤ L then B i else w' := ⟨fun i => if i ≤ L then B i else w', fun _ => rfl⟩
  have bl : ∀ i, i ≤ L → B' i = B i := fun i hi => by rw [hB, if_pos hi]
  have bL : B' (L + 1) = w' := by rw [hB, if_neg (by omega)]
  refine ⟨B', bl, bL, ?_⟩
  obtain ⟨h1, h2, h3, h4, h5, h6, h7⟩ := h
  refine ⟨h1, h2, h3, h4, h5, ⟨by rw [bl 0 (by omega)]; exact h6.1, by rw [bL]; exact Nat.le_refl _, Nat.le_refl _⟩, fun i hi => ?_⟩
  by_cases z : i = L
  · subst z
    unfold okc
    rw [bL, bl i (Nat.le_refl _), hw0, p2.2.2]
    exact ⟨⟨ne, h8⟩, ⟨p2.1, p2.2.1⟩, p3, p4, p5⟩
  · have := h7 i (by omega)
    unfold okc at this ⊢
    rw [bl i (by omega), bl (i + 1) (by omega)]
    exact this
/-- inside the loop over the branches -/
def eI (M : mM) (a g T R W C Z : Nat) (E : Nat → Nat) (tg : Int) (n L w0 k : Nat) (mul : Int) (B : Nat → Nat) (cA cD : Nat → Int) (b : Nat) (M2 : mM) : Prop := xF M a M2 ∧ GG M2 a g T R W C Z E tg ∧ En M2 a g R W ∧ (mI M2 (a + 107) = mI M (a + 107) ∧ (∀ k', k' ≠ k → mI M2 (a + 108) k' = mI M (a + 108) k') ∧ mI M2 (a + 108) k = mI M (a + 108) k + 1) ∧ (mI M2 a 16 = 0 → (mL M2 (a + 21189) = cA ∧ mL M2 (a + 21190) = cD) ∧ ∃ n2 w2 : Nat, n ≤ n2 ∧ XD M2 a g n2 W L w2 (L + 1) B ∧ Op M2 a L w0 w2 mul (sm (fun b' => cA b' * (mul / cD b')) b) ∧ w2 ≤ w0 + b)
theorem s_en201 {c nb : Nat} {pl : Int} {cA cD : Nat → Int} (h0 : GG M a g T R W C Z E tg) (ipl : i32 pl) (hc : c < C) (hnb : mI M (g + 25) c = (nb : Int)) (hw0 : B L = w0) (hL : L ≤ 4096) (hch : ∀ b', b' < nb → 0 ≤ cA b' ∧ cA b' ≤ cD b' ∧ 1 ≤ cD b' ∧ cD b' < 1000000000 ∧ cD b' ∣ mul) (hmul : 1 ≤ mul) (hsum : sm (fun b' => cA b' * (mul / cD b')) nb = mul) : ∀ (t b : Nat) (M2 : mM), b + t = nb → eI M a g T R W C Z E tg n L w0 k mul B cA cD b M2 → h_MM_enabled_201 G (d + 7) a c pl b M2 (fun M' => mOk M' ∧ enQ M a g T R W C Z E tg n L k B M') := by
  have wd0 := h0.2.1
  have hg := h0.2.2.1.2
  have hBd := h0.2.2.2.2.2.2.2.1.1
  have nb8 : nb ≤ 8 := by
    have := (h0.2.2.2.2.2.2.2.1.2.2.2.2.1 c hc).2.2.1
    omega
  have ic : i32 (c : Int) := i32s (by omega) (by omega)
  have b60 : ((0 : Int) ≤ (c : Int) ∧ (c : Int) < ((60 : Nat) : Int)) := by omega
  have term : ∀ b', b' < nb → 0 ≤ cA b' * (mul / cD b') := fun b' hb' => by
    have := hch b' hb'
    exact Int.mul_nonneg (by omega) (Int.ediv_nonneg (by omega) (by omega))
  have finx : ∀ (b : Nat) (M2 : mM), eI M a g T R W C Z E tg n L w0 k mul B cA cD b M2 → mI M2 a 16 ≠ 0 → mOk M2 ∧ enQ M a g T R W C Z E tg n L k B M2 := fun b M2 h z => ⟨h.2.1.1, h.1, h.2.1, h.2.2.1, h.2.2.2.1.1, h.2.2.2.1.2.1, Or.inl z⟩
  intro t
  induction t with
  | zero =>
    intro b M2 hb h
    have eb : b = nb := by omega
    subst eb
    obtain ⟨x1, gg, en, tb, hh⟩ := id h
    have w2 := gg.2.1
    have gs := x1.gs wd0 hg
    have r25 : mI M2 (g + 25) c = (b : Int) := by rw [(gs.2.1 25 (by omega) (by omega)).1]; exact hnb
    refine k_MM_enabled_201 gg.1 ic ipl (i32s (by omega) (by omega)) ⟨w2.1.1, ?_⟩
    rw [gg.2.2.1.1, show mR M2 g 22 = g + 25 from (w2.gp hg).2.2.1.2.2.2.2.2.2.2.1, Int.toNat_natCast, r25]
    refine ⟨(w2.gp hg).1, (w2.gp hg).2.2.2.2.2.2.2.2.1.1, by rw [(w2.gp hg).2.2.2.2.2.2.2.2.1.2]; exact b60, fun _ => ?_, fun q => absurd (Or.inl (Int.le_refl _)) q⟩
    by_cases z : mI M2 a 16 = 0
    · obtain ⟨-, n2, w2', y1, y2, y3, y4⟩ := hh z
      rw [hsum] at y3
      obtain ⟨B', u1, u2, u3⟩ := Op.close y2 hw0 y3 (by omega)
      exact ⟨gg.1, x1, gg, en, tb.1, tb.2.1, Or.inr ⟨z, tb.2.2, n2, w2', B', y1, u1, u2, u3⟩⟩
    · exact finx b M2 h z
  | succ t ih =>
    intro b M2 hb h
    obtain ⟨x1, gg, en, tb, hh⟩ := id h
    have w2 := gg.2.1
    have gs := x1.gs wd0 hg
    have r25 : mI M2 (g + 25) c = (nb : Int) := by rw [(gs.2.1 25 (by omega) (by omega)).1]; exact hnb
    have b8 : ((0 : Int) ≤ (b : Int) ∧ (b : Int) < ((8 : Nat) : Int)) := by omega
    have hbn : b < nb := by omega
    refine k_MM_enabled_201 gg.1 ic ipl (i32s (by omega) (by omega)) ⟨w2.1.1, ?_⟩
    rw [gg.2.2.1.1, show mR M2 g 22 = g + 25 from (w2.gp hg).2.2.1.2.2.2.2.2.2.2.1, Int.toNat_natCast, r25, (r4546 w2).1.1, Int.toNat_natCast]
    refine ⟨(w2.gp hg).1, (w2.gp hg).2.2.2.2.2.2.2.2.1.1, by rw [(w2.gp hg).2.2.2.2.2.2.2.2.1.2]; exact b60, fun q => finx b M2 h ?_, fun q => ⟨(r4546 w2).2.1.1, by rw [(r4546 w2).2.1.2]; exact b8, fun q0 => ?_, fun q0 => ?_⟩⟩
    · rcases q with q | q
      · omega
      · exact q
    · have z : mI M2 a 16 = 0 := Classical.byContradiction (fun z => q (Or.inr z))
      obtain ⟨⟨e1, e2⟩, n2, w2', y1, y2, y3, y4⟩ := hh z
      have c0 : cA b = 0 := by rw [← e1]; exact (cmpz _ _).2.2.2.1.1 q0
      rw [show (b : Int) + 1 = ((b + 1 : Nat) : Int) by omega]
      refine ih (b + 1) M2 (by omega) ⟨x1, gg, en, tb, fun _ => ⟨⟨e1, e2⟩, n2, w2', y1, y2, ?_, by omega⟩⟩
      have : sm (fun b' => cA b' * (mul / cD b')) (b + 1) = sm (fun b' => cA b' * (mul / cD b')) b := by
        show sm (fun b' => cA b' * (mul / cD b')) b + cA b * (mul / cD b) = _
        rw [c0, Int.zero_mul]; omega
      rw [this]
      exact y3
    · have z : mI M2 a 16 = 0 := Classical.byContradiction (fun z => q (Or.inr z))
      obtain ⟨⟨e1, e2⟩, n2, w2', y1, y2, y3, y4⟩ := hh z
      have c0 : cA b ≠ 0 := fun y => q0 ((cmpz _ _).2.2.2.1.2 (by rw [e1]; exact y))
      obtain ⟨k1, k2, k3, k4, k5⟩ := hch b hbn
      have wi : wI M2 a g T R W C Z E tg n2 L w2' w0 mul (sm (fun b' => cA b' * (mul / cD b')) b) (cA b) (cD b) B b M2 := ⟨wyF.mk (P := fun _ => False) (S := fun _ => False) w2 (Mv.refl gg.1 w2 (fun _ z => z.elim)) (fun _ z => z.elim) (fun _ z => z.elim) (fun _ _ _ _ _ _ => rfl), gg, en, y2, y3, by rw [e1], by rw [e2]⟩
      have le : sm (fun b' => cA b' * (mul / cD b')) b + cA b * (mul / cD b) ≤ mul := by
        have := sm_part (f := fun b' => cA b' * (mul / cD b')) (a := b + 1) (nb - (b + 1)) (fun c hc => term c (by omega))
        rw [show b + 1 + (nb - (b + 1)) = nb by omega, hsum] at this
        exact this
      refine (s_MM_way (d := d) wi ipl hc (by rw [r25]; omega) hw0 ⟨by omega, by omega⟩ ⟨by omega, by omega⟩ k5 le hL).mono (fun M3 t3 => ⟨t3.1, ?_⟩)
      obtain ⟨-, W3, gg3, en3, hq⟩ := t3
      have tab := W3.tab w2
      rw [show (b : Int) + 1 = ((b + 1 : Nat) : Int) by omega]
      refine ih (b + 1) M3 (by omega) ⟨x1.trans (W3.xf w2), gg3, en3, ?_, fun z3 => ?_⟩
      · rw [tab.2.1, tab.2.2.1]; exact tb
      · rcases hq with y | ⟨-, n3, w3, u1, u2, u3, u4⟩
        · exact absurd z3 y
        · exact ⟨⟨tab.2.2.2.1.trans e1, tab.2.2.2.2.trans e2⟩, n3, w3, by omega, u3, u4, by omega⟩
end ENB
