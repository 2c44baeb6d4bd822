/-! The reference: the solver's tables are those of what was explored. -/
section TSV
variable {a n L w : Nat} {M : mM} {F B : Nat → Nat} {mu to up dn : Nat → Int}
theorem rgetR {α : Type} (f : Nat → α) (n k : Nat) : ((List.range n).map f)[k]? = if k < n then some (f k) else none := by
  by_cases h : k < n
  · rw [if_pos h, List.getElem?_map, List.getElem?_range h]
    all_goals rfl
  · rw [if_neg h]
    exact List.getElem?_eq_none (by rw [List.length_map, List.length_range]; omega)
theorem wsL_app {x : Nat → Rat} : ∀ l r : List (Nat × Int), wsL9 x (l ++ r) = wsL9 x l + wsL9 x r
  | [], r => by
    show wsL9 x r = 0 + wsL9 x r
    grind
  | b :: l, r => by
    show (b.2 : Rat) * x b.1 + wsL9 x (l ++ r) = (b.2 : Rat) * x b.1 + wsL9 x l + wsL9 x r
    rw [wsL_app l r]
    grind
theorem wsL_map {x : Nat → Rat} {p : Nat → Nat} {q : Nat → Int} : ∀ m, wsL9 x ((List.range m).map (fun t => (p t, q t))) = sr (fun t => (q t : Rat) * x (p t)) m
  | 0 => rfl
  | m + 1 => by
    rw [List.range_succ, List.map_append, wsL_app, wsL_map m]
    show _ + ((q m : Rat) * x (p m) + 0) = sr (fun t => (q t : Rat) * x (p t)) m + (q m : Rat) * x (p m)
    grind
theorem sr_cq {g h : Nat → Rat} {y : Rat} : ∀ n, (∀ t, t < n → g t = h t * y) → sr g n = sr h n * y
  | 0, _ => by
    show (0 : Rat) = 0 * y
    grind
  | n + 1, e => by
    show sr g n + g n = (sr h n + h n) * y
    rw [sr_cq n (fun t ht => e t (by omega)), e n (by omega)]
    grind
theorem inv_q {m c q : Rat} (h : m * c = q) (m0 : m ≠ 0) : c = q * m⁻¹ := by
  have e := Rat.mul_inv_cancel _ m0
  grind
theorem tl_svt (tt : TT M a n L w F B mu to up dn) (tl : TL M (a + 117) F B mu to up dn n L w) (hB : B L = w) (gb : GB M (a + 117)) (hto : ∀ j, j < w → 0 ≤ to j ∧ to j < n) : SvT M (a + 117) (xtR M a n) := by
  have lenT : (xtR M a n).length = n := by unfold xtR; rw [List.length_map, List.length_range]
  obtain ⟨⟨t0, t1, t2⟩, ⟨fn, fk⟩, -, bk, wk⟩ := tt
  obtain ⟨-, ⟨n1, n2, n3⟩, ⟨f1, f2⟩, ⟨b1, b2⟩, m1, w1, -, -, kd⟩ := tl
  have eF : ∀ j, j ≤ n → mI M (a + 117 + 23) j = (F j : Int) := fun j hj => by
    by_cases z : j = n
    · rw [z, f2, fn]
    · exact f1 j (by omega)
  have eB : ∀ j, j ≤ L → mI M (a + 117 + 25) j = (B j : Int) := fun j hj => by
    by_cases z : j = L
    · rw [z, b2, hB]
    · exact b1 j (by omega)
  refine ⟨by rw [n1]; unfold xtR; rw [List.length_map, List.length_range], fun k x hx => ?_⟩
  unfold xtR at hx
  rw [rgetR] at hx
  by_cases hk : k < n
  · rw [if_pos hk] at hx
    have ex := Option.some.inj hx
    subst ex
    obtain ⟨g7, g8, g9, g10⟩ := fk k hk
    have e23 := eF k (by omega)
    have e24 := eF (k + 1) (by omega)
    refine ⟨?_, ?_, fun i c hc => ?_⟩
    · rw [kd k hk, show a + 117 - 11 = a + 106 by omega]
      all_goals rfl
    · unfold mny stR cmL
      rw [List.length_map, List.length_range, e23, e24, g8, Int.toNat_natCast]
      omega
    · have hc' : ((List.range (mI M (a + 108) k).toNat).map (fun t => cmQ M a ((mI M (a + 107) k).toNat + t)))[i]? = some c := hc
      rw [rgetR, g7, g8, Int.toNat_natCast, Int.toNat_natCast] at hc'
      by_cases hi : i < F (k + 1) - F k
      · rw [if_pos hi] at hc'
        have ec := Option.some.inj hc'
        obtain ⟨q1, q2, q3, q4, q5⟩ := bk (F k + i) (by omega)
        have e25 := eB (F k + i) (by omega)
        have e26 := eB (F k + i + 1) (by omega)
        have bl : c.2.2 = (List.range (B (F k + i + 1) - B (F k + i))).map (fun t => ((mI M (a + 21185) (B (F k + i) + t)).toNat, mL M (a + 21186) (B (F k + i) + t) * (nt M (a + 115) (F k + i) / mL M (a + 21187) (B (F k + i) + t)))) := by
          rw [← ec]
          unfold cmQ brR
          rw [q1, q2, Int.toNat_natCast, Int.toNat_natCast]
        rw [e23, Int.toNat_natCast]
        refine ⟨by rw [m1 (F k + i) (by omega), ← q5, ← ec]; rfl, fun J => ?_, fun b hb => ?_, fun f => ?_⟩
        rotate_left
        · rw [bl] at hb
          obtain ⟨t, t3, t4⟩ := List.mem_map.mp hb
          have t5 := List.mem_range.mp t3
          rw [← t4, lenT]
          show (mI M (a + 21185) (B (F k + i) + t)).toNat < n
          have h1 := (wk (B (F k + i) + t) (by omega)).1
          have h2 := hto (B (F k + i) + t) (by omega)
          omega
        · have ecx : cx M (a + 117) k i = F k + i := by
            unfold cx
            rw [e23, Int.toNat_natCast]
          have ebg : bg M (a + 117) (F k + i) = B (F k + i) := by
            unfold bg
            rw [e25, Int.toNat_natCast]
          have enb : nb M (a + 117) (F k + i) = B (F k + i + 1) - B (F k + i) := by
            unfold nb
            rw [e25, e26]
            omega
          have c21 : c.2.1 = nt M (a + 115) (F k + i) := by rw [← ec]; rfl
          have hc2 : ((F k + i : Nat) : Int) < mI M (a + 117) 2 := by rw [n2]; omega
          have gk := (gb (F k + i) hc2).1.1
          have em : mI M (a + 117 + 24) (F k + i) = nt M (a + 115) (F k + i) := by rw [m1 (F k + i) (by omega), ← q5]
          unfold wr9 cw
          rw [bl, wsL_map, c21, ecx, ebg, enb]
          refine sr_cq _ (fun t ht => ?_)
          have w9 := w1 (B (F k + i) + t) (by omega)
          have k9 := wk (B (F k + i) + t) (by omega)
          have ci := gb.chq_int hc2 (b := t) (by rw [enb]; exact ht)
          rw [ebg, em] at ci
          rw [w9.2.1, w9.2.2] at ci
          have m0 : ((nt M (a + 115) (F k + i) : Int) : Rat) ≠ 0 := ic_ne (by rw [← em]; omega)
          show chq M (a + 117) (B (F k + i) + t) * f (mI M (a + 117 + 26) (B (F k + i) + t)).toNat = ((mL M (a + 21186) (B (F k + i) + t) * (nt M (a + 115) (F k + i) / mL M (a + 21187) (B (F k + i) + t)) : Int) : Rat) * f (mI M (a + 21185) (B (F k + i) + t)).toNat * ((nt M (a + 115) (F k + i) : Int) : Rat)⁻¹
          rw [inv_q ci m0, k9.2.1, k9.2.2.1, k9.1, w9.1]
          generalize ((up (B (F k + i) + t) * (nt M (a + 115) (F k + i) / dn (B (F k + i) + t)) : Int) : Rat) = A
          generalize f (to (B (F k + i) + t)).toNat = Y
          generalize ((nt M (a + 115) (F k + i) : Int) : Rat)⁻¹ = Z
          grind
        unfold leadQ ldA9
        rw [e23, Int.toNat_natCast, e25, e26, bl]
        constructor
        · rintro ⟨b, u1, u2, u3⟩
          refine ⟨_, List.mem_map.mpr ⟨b - B (F k + i), List.mem_range.mpr (by omega), rfl⟩, ?_⟩
          show J (mI M (a + 21185) (B (F k + i) + (b - B (F k + i)))).toNat
          rw [show B (F k + i) + (b - B (F k + i)) = b by omega, (wk b (by omega)).1, ← (w1 b (by omega)).1]
          exact u3
        · rintro ⟨y, y1, y2⟩
          obtain ⟨t, t3, t4⟩ := List.mem_map.mp y1
          have t5 := List.mem_range.mp t3
          rw [← t4] at y2
          have y3 : J (mI M (a + 21185) (B (F k + i) + t)).toNat := y2
          refine ⟨B (F k + i) + t, by omega, by omega, ?_⟩
          rw [(w1 _ (by omega)).1, ← (wk _ (by omega)).1]
          exact y3
      · rw [if_neg hi] at hc'
        cases hc'
  · rw [if_neg hk] at hx
    cases hx
end TSV
