/-! The reference: enabled, to its end. -/
section ENB3
variable {G : mG} {d a g T R W C Z n L w k : Nat} {M M2 M3 : mM} {E : Nat → Nat} {tg mul : Int} {B : Nat → Nat}
theorem XD.le {Ln : Nat} (h : XD M a g n W L w Ln B) : L ≤ 4096 := by
  have := h.mono 0 L (by omega) (Nat.le_refl _)
  have := h.2.2.2.2.2.1
  have := h.2.1.2
  omega
theorem sm_bd {f : Nat → Int} {c : Int} : ∀ (m : Nat), (∀ t, t < m → 0 ≤ f t ∧ f t ≤ c) → 0 ≤ sm f m ∧ sm f m ≤ m * c
  | 0, _ => ⟨Int.le_refl 0, by show (0 : Int) ≤ ((0 : Nat) : Int) * c; rw [show ((0 : Nat) : Int) = 0 from rfl, Int.zero_mul]; exact Int.le_refl 0⟩
  | m + 1, h => by
    have a := sm_bd m (fun t ht => h t (by omega))
    have b := h m (by omega)
    refine ⟨?_, ?_⟩
    · show 0 ≤ sm f m + f m
      omega
    · show sm f m + f m ≤ ((m + 1 : Nat) : Int) * c
      rw [show ((m + 1 : Nat) : Int) * c = (m : Int) * c + c by rw [Int.natCast_add, Int.add_mul]; show (m : Int) * c + 1 * c = _; rw [Int.one_mul]]
      omega
theorem en_stop {c p : Int} (h : eB M a g T R W C Z E tg n L w B M2) (hc : c ≠ 0) (q : Mv (fun _ => False) (fun x => x = a) M2 a M3 ∧ mI M3 a 16 = c ∧ mI M3 a 17 = p ∧ ∀ i, i ≠ 16 → i ≠ 17 → mI M3 a i = mI M2 a i) : enQ M a g T R W C Z E tg n L k B M3 := by
  obtain ⟨x1, gg, en, xd, t107, t108⟩ := h
  have w2 := gg.2.1
  have hg := gg.2.2.1.2
  have no : ∀ q : Nat, False → q ∈ nums a := fun _ z => z.elim
  have F : xF M2 a M3 := xF.mk w2 q.1 (fun _ z => z.elim) (fun x z => Or.inl z) (fun i i1 i2 _ _ _ => q.2.2.2 i i1 i2)
  have gs := F.gs w2 hg
  have c7 := (q.1.cellL w2 no (offx (a := a) (o := 107) (by decide)) (by omega)).1
  have c8 := (q.1.cellL w2 no (offx (a := a) (o := 108) (by decide)) (by omega)).1
  exact ⟨x1.trans F, gg.gs q.1.1 q.1.2.1 (by rw [q.1.rfl_a w2 no]) gs, en.mv w2 q.1 no gs (fun x z => by omega), by rw [c7]; exact t107, fun k' _ => by rw [c8, t108], Or.inl (by rw [q.2.1]; exact hc)⟩
theorem s_en87 {c nb : Nat} {pl : Int} (h0 : GG M a g T R W C Z E tg) (h : eB M a g T R W C Z E tg n L w B M2) (z16 : mI M2 a 16 = 0) (hw : B L = w) (hk5 : k < 512) (hk : 0 ≤ mI M (a + 108) k ∧ mI M (a + 108) k ≤ 5000) (hc : c < C) (hnb : mI M (g + 25) c = (nb : Int)) (ipl : i32 pl) (hm : 1 ≤ mul ∧ mul < 1000000000) (hch : chk1 M2 a nb) (hdv : ∀ b' : Nat, b' < nb → mL M2 (a + 21190) b' ∣ mul) : ∀ (t b : Nat), b + t = nb → h_MM_enabled_87 G (d + 7) a k c pl mul (sm (fun b' => mL M2 (a + 21189) b' * (mul / mL M2 (a + 21190) b')) b) b M2 (fun M' => mOk M' ∧ enQ M a g T R W C Z E tg n L k B M') := by
  obtain ⟨x1, gg, en, xd, t107, t108⟩ := id h
  have o2 := gg.1
  have w2 := gg.2.1
  have hg := gg.2.2.1.2
  have hBd := gg.2.2.2.2.2.2.2.1.1
  have wd0 := h0.2.1
  have gs := x1.gs wd0 hg
  have r25 : mI M2 (g + 25) c = (nb : Int) := by rw [(gs.2.1 25 (by omega) (by omega)).1]; exact hnb
  have nb8 : nb ≤ 8 := by
    have := (h0.2.2.2.2.2.2.2.1.2.2.2.2.1 c hc).2.2.1
    omega
  have hL := xd.le
  have term : ∀ b', b' < nb → 0 ≤ mL M2 (a + 21189) b' * (mul / mL M2 (a + 21190) b') ∧ mL M2 (a + 21189) b' * (mul / mL M2 (a + 21190) b') ≤ mul := fun b' hb' => by
    have c1 := hch b' hb'
    obtain ⟨q, hq⟩ := hdv b' hb'
    have e : mul / mL M2 (a + 21190) b' = q := by rw [hq]; exact Int.mul_ediv_cancel_left q (by omega)
    have q0 : 0 ≤ q := by rw [← e]; exact Int.ediv_nonneg (by omega) (by omega)
    rw [e]
    refine ⟨Int.mul_nonneg (by omega) q0, ?_⟩
    have := Int.mul_le_mul_of_nonneg_right c1.2.1 q0
    omega
  have ik : i32 (k : Int) := i32s (by omega) (by omega)
  have ic : i32 (c : Int) := i32s (by omega) (by omega)
  have im : i64 mul := ⟨by omega, by omega⟩
  have b60 : ((0 : Int) ≤ (c : Int) ∧ (c : Int) < ((60 : Nat) : Int)) := by omega
  have b512 : ((0 : Int) ≤ (k : Int) ∧ (k : Int) < ((512 : Nat) : Int)) := by omega
  have sb : ∀ b, b ≤ nb → i64 (sm (fun b' => mL M2 (a + 21189) b' * (mul / mL M2 (a + 21190) b')) b) := fun b hb => by
    have := sm_bd (f := fun b' => mL M2 (a + 21189) b' * (mul / mL M2 (a + 21190) b')) (c := mul) b (fun t ht => term t (by omega))
    have h8 : (b : Int) * mul ≤ 8 * 1000000000 := Int.mul_le_mul (by omega) (by omega) (by omega) (by omega)
    exact ⟨by omega, by omega⟩
  intro t
  induction t with
  | zero =>
    intro b hb
    have eb : b = nb := by omega
    subst eb
    refine k_MM_enabled_87 o2 ik ic ipl im (sb b (Nat.le_refl _)) (i32s (by omega) (by omega)) ⟨w2.1.1, ?_⟩
    rw [gg.2.2.1.1, show mR M2 g 22 = g + 25 from (w2.gp hg).2.2.1.2.2.2.2.2.2.2.1, Int.toNat_natCast, r25, show mR M2 a 35 = a + 109 from w2.1.2.2.2.2.2.1.2.2.2.2.1]
    refine ⟨(w2.gp hg).1, (w2.gp hg).2.2.2.2.2.2.2.2.1.1, by rw [(w2.gp hg).2.2.2.2.2.2.2.2.1.2]; exact b60, fun _ => ⟨fun q => ⟨(w2.nu k109).1, ?_⟩, fun q => (s_MM_stop ⟨by decide, by decide⟩ ipl o2 w2).mono (fun M3 h3 => ⟨h3.1.1, h3.1.1, en_stop h (by decide) h3⟩)⟩, fun q => absurd (Int.le_refl _) q⟩
    have hsum := (cmpz _ _).2.2.2.1.1 q
    obtain ⟨l109, l111, l113, l115⟩ := xd.2.2.2.2.1
    refine (s_MN_add ic o2 (w2.nu k109) (by rw [l109]; omega)).mono (fun M3 a3 => ?_)
    have m3 := mv_add w2 k109 a3
    have w3 := m3.2.1
    have z115 : ln M3 (a + 115) = (L : Int) := by rw [(m3.lst k115 (by omega)).1, l115]
    have z111 : ln M3 (a + 111) = (L : Int) := by rw [(m3.lst k111 (by omega)).1, l111]
    have z113 : ln M3 (a + 113) = (L : Int) := by rw [(m3.lst k113 (by omega)).1, l113]
    rw [show mR M3 a 38 = a + 115 from w3.1.2.2.2.2.2.1.2.2.2.2.2.2.2.1]
    refine ⟨m3.1, w3.1.1, (w3.nu k115).1, (s_MN_add ⟨by omega, by omega⟩ m3.1 (w3.nu k115) (by rw [z115]; omega)).mono (fun M4 a4 => ?_)⟩
    have m4 := mv_add w3 k115 a4
    have w4 := m4.2.1
    have i1 : ∀ {p q : Nat}, p ∈ nums a → q = p → q ∈ nums a := fun hp hq => by rw [hq]; exact hp
    have e40 : mI M4 a 40 = (w : Int) := by
      rw [(m4.fld w3 (fun q hq => i1 k115 hq) (fun z => z)).1, (m3.fld w2 (fun q hq => i1 k109 hq) (fun z => z)).1]
      exact xd.2.1.1
    have w4096 := xd.2.1.2
    rw [show mR M4 a 36 = a + 111 from w4.1.2.2.2.2.2.1.2.2.2.2.2.1, e40]
    refine ⟨m4.1, w4.1.1, (w4.nu k111).1, (s_MN_add (i32s (by omega) (by omega)) m4.1 (w4.nu k111) (by rw [(m4.lst k111 (by omega)).1, z111]; omega)).mono (fun M5 a5 => ?_)⟩
    have m5 := mv_add w4 k111 a5
    have w5 := m5.2.1
    rw [show mR M5 a 37 = a + 113 from w5.1.2.2.2.2.2.1.2.2.2.2.2.2.1]
    refine ⟨m5.1, w5.1.1, (w5.nu k113).1, (s_MN_add ⟨by decide, by decide⟩ m5.1 (w5.nu k113) (by rw [(m5.lst k113 (by omega)).1, (m4.lst k113 (by omega)).1, z113]; omega)).mono (fun M6 a6 => ?_)⟩
    have m6 := mv_add w5 k113 a6
    have w6 := m6.2.1
    have A8 : mK M6 (a + 108) = 30 ∧ mN M6 (a + 108) = 512 := w6.1.2.2.2.2.2.2.2.2.1.2.2.2
    have e108 : mI M6 (a + 108) = mI M (a + 108) := by
      rw [← t108, (m6.cellL w5 (fun q hq => i1 k113 hq) (offx (a := a) (o := 108) (by decide)) (fun z => z)).1, (m5.cellL w4 (fun q hq => i1 k111 hq) (offx (a := a) (o := 108) (by decide)) (fun z => z)).1, (m4.cellL w3 (fun q hq => i1 k115 hq) (offx (a := a) (o := 108) (by decide)) (fun z => z)).1, (m3.cellL w2 (fun q hq => i1 k109 hq) (offx (a := a) (o := 108) (by decide)) (fun z => z)).1]
    rw [show mR M6 a 34 = a + 108 from w6.1.2.2.2.2.2.1.2.2.2.1, Int.toNat_natCast, e108]
    refine ⟨m6.1, w6.1.1, A8.1, by rw [A8.2]; exact b512, by rw [A8.2]; exact b512, i32s (by omega) (by omega), fun M7 e7 => ?_⟩
    obtain ⟨⟨u1, u2, u3⟩, u4, u5, u6, u7, u8, u9, u10, u11⟩ := en_put (c := c) h hw hk hm a3 a4 a5 a6 e7
    refine s_en201 h0 ipl hc hnb hw hL (fun b' hb' => ⟨(hch b' hb').1, (hch b' hb').2.1, (hch b' hb').2.2.1, (hch b' hb').2.2.2, hdv b' hb'⟩) hm.1 hsum b 0 M7 (by omega) ⟨u6, u7, u8, u9, fun _ => ⟨⟨by rw [u1]; exact u2, by rw [u1]; exact u3⟩, n, w, Nat.le_refl _, u10, u11, by omega⟩⟩
  | succ t ih =>
    intro b hb
    have b8 : ((0 : Int) ≤ (b : Int) ∧ (b : Int) < ((8 : Nat) : Int)) := by omega
    have c1 := hch b (by omega)
    have nx := ih (b + 1) (by omega)
    refine k_MM_enabled_87 o2 ik ic ipl im (sb b (by omega)) (i32s (by omega) (by omega)) ⟨w2.1.1, ?_⟩
    rw [gg.2.2.1.1, show mR M2 g 22 = g + 25 from (w2.gp hg).2.2.1.2.2.2.2.2.2.2.1, Int.toNat_natCast, r25, (r4546 w2).1.1, (r4546 w2).1.2, Int.toNat_natCast, Int.toNat_natCast]
    refine ⟨(w2.gp hg).1, (w2.gp hg).2.2.2.2.2.2.2.2.1.1, by rw [(w2.gp hg).2.2.2.2.2.2.2.2.1.2]; exact b60, fun q => absurd q (by omega), fun _ => ⟨(r4546 w2).2.1.1, by rw [(r4546 w2).2.1.2]; exact b8, (r4546 w2).2.2.1, by rw [(r4546 w2).2.2.2]; exact b8, by omega, ?_⟩⟩
    rw [show Int.tdiv mul (mL M2 (a + 21190) b) = mul / mL M2 (a + 21190) b from Int.tdiv_eq_ediv_of_nonneg (by omega), show (b : Int) + 1 = ((b + 1 : Nat) : Int) by omega]
    exact nx
end ENB3
