/-! The solver: all other rows are cleared of a column. -/
theorem Tb.congr {M : mM} {s m : Nat} {A B : Nat → Nat → Rat} (h : Tb M s m A) (e : ∀ a b, a < m → b ≤ m → A a b = B a b) : Tb M s m B := by
  intro a b ha hb
  obtain ⟨t1, t2, t3⟩ := h a b ha hb
  exact ⟨t1, t2, t3.trans (e a b ha hb)⟩
section VS
variable {G : mG} {d s m : Nat} {M : mM} {B : Nat → Nat → Rat}
abbrev elA (B : Nat → Nat → Rat) (k i : Nat) : Nat → Nat → Rat := fun a b => if a < i ∧ a ≠ k ∧ k ≤ b then B a b - B a k * B k b else B a b
theorem s_clear {k : Nat} {Q : mM → Prop} (hm : m ≤ 40) (hk : k < m) (hO : mOk M) (hV : Vk M s) (h24 : mI M s 24 = m) (hW : Wk M s) (hT : Tb M s m B) (hB : ∀ a b, a < m → b ≤ m → B a b ≤ 1 ∧ -1 ≤ B a b) (hS : ∀ a b, a < m → a ≠ k → k ≤ b → b ≤ m → Sml (B a b - B a k * B k b))
    (hQ : ∀ M', mOk M' → FI (cS s m) M M' → Wk M' s → Tb M' s m (elA B k m) → h_MS_solveRows_2 G (d + 5) s ((k : Int) + 1) M' Q) : h_MS_solveRows_63 G (d + 5) s k 0 M Q := by
  have hT0 : Tb M s m (elA B k 0) := hT.congr (fun a b ha hb => by
    show B a b = if a < 0 ∧ a ≠ k ∧ k ≤ b then _ else B a b
    rw [if_neg (by omega)])
  suffices H : ∀ (n i : Nat) (M2 : mM), i + n = m → mOk M2 → FI (cS s m) M M2 → Wk M2 s → Tb M2 s m (elA B k i) → h_MS_solveRows_63 G (d + 5) s k i M2 Q from
    H m 0 M (by omega) hO FI.refl hW hT0
  intro n
  induction n with
  | zero =>
    intro i M2 hn o2 f2 W2 T2
    have es : mI M2 s = mI M s := f2.2.2.2.2.2.2 s (by omega)
    have ei : i = m := by omega
    subst ei
    refine k_MS_solveRows_63 o2 ⟨by omega, by omega⟩ ⟨by omega, by omega⟩ ?_
    rw [es, h24]
    exact ⟨(hV.fi f2).k0, fun _ => hQ M2 o2 f2 W2 T2, fun c => by omega⟩
  | succ n ih =>
    intro i M2 hn o2 f2 W2 T2
    have hV2 := hV.fi f2
    have es : mI M2 s = mI M s := f2.2.2.2.2.2.2 s (by omega)
    have hi : i < m := by omega
    have c1 : ∀ b, elA B k i i b = B i b := fun b => if_neg (by omega)
    have c2 : ∀ b, elA B k i k b = B k b := fun b => if_neg (fun w => w.2.1 rfl)
    refine k_MS_solveRows_63 o2 ⟨by omega, by omega⟩ ⟨by omega, by omega⟩ ?_
    rw [es, h24]
    refine ⟨hV2.k0, fun c => by omega, fun _ => ⟨fun c => ih (i + 1) M2 (by omega) o2 f2 W2 (T2.congr (fun a b ha hb => ?_)), fun c => (s_MS_cell (by omega) (by omega) o2 hV2).mono (fun x M3 h3 => ?_)⟩⟩
    · show (if a < i ∧ a ≠ k ∧ k ≤ b then B a b - B a k * B k b else B a b) = if a < i + 1 ∧ a ≠ k ∧ k ≤ b then B a b - B a k * B k b else B a b
      by_cases q : a < i ∧ a ≠ k ∧ k ≤ b
      · rw [if_pos q, if_pos ⟨by omega, q.2⟩]
      · rw [if_neg q, if_neg (by omega)]
    · obtain ⟨e3, hx⟩ := h3
      subst e3 hx
      have hik : i ≠ k := by omega
      have ck := T2 i k hi (by omega)
      refine ⟨o2, ck.1.1.1, (s_MF_isZero o2 ck.1).mono (fun y M4 h4 => ?_)⟩
      obtain ⟨e4, hy⟩ := h4
      subst e4
      have hcc : ∀ a b, a < m → b ≤ m → elA B k i a b ≤ 1 ∧ -1 ≤ elA B k i a b := fun a b ha hb => by
        show (if a < i ∧ a ≠ k ∧ k ≤ b then B a b - B a k * B k b else B a b) ≤ 1 ∧ -1 ≤ (if a < i ∧ a ≠ k ∧ k ≤ b then B a b - B a k * B k b else B a b)
        by_cases q : a < i ∧ a ≠ k ∧ k ≤ b
        · rw [if_pos q]
          obtain ⟨E, z, _, _, _, h5, h6⟩ := hS a b ha q.2.1 q.2.2 hb
          exact ⟨h5, h6⟩
        · rw [if_neg q]
          exact hB a b ha hb
      refine ⟨⟨by split at hy <;> omega, by split at hy <;> omega⟩, o2, fun q => ⟨hV2.k0, ?_⟩, fun q => ?_⟩
      · refine (s_MS_clearColumn (d := d) hm hi hk hik o2 hV2 (by rw [es]; exact h24) W2 T2 hcc (fun b h1 h2 => by rw [c1, c1, c2]; exact hS i b hi hik h1 h2)).mono (fun M5 h5 => ?_)
        obtain ⟨w1, w2, w3, w4⟩ := h5
        refine ⟨w1, ih (i + 1) M5 (by omega) w1 (f2.trans w2) w3 (w4.congr (fun a b ha hb => ?_))⟩
        show (if a = i ∧ k ≤ b ∧ b < m + 1 then elA B k i i b - elA B k i i k * elA B k i k b else elA B k i a b) = if a < i + 1 ∧ a ≠ k ∧ k ≤ b then B a b - B a k * B k b else B a b
        rw [c1, c1, c2]
        by_cases z : a = i ∧ k ≤ b ∧ b < m + 1
        · rw [if_pos z, if_pos (by omega), z.1]
        · rw [if_neg z]
          show (if a < i ∧ a ≠ k ∧ k ≤ b then B a b - B a k * B k b else B a b) = _
          by_cases y : a < i ∧ a ≠ k ∧ k ≤ b
          · rw [if_pos y, if_pos (by omega)]
          · rw [if_neg y, if_neg (by omega)]
      · have hz : B i k = 0 := by
          have hs : sn M4 (cel s i k) = 0 := by
            by_cases w : sn M4 (cel s i k) = 0
            · exact w
            · rw [if_neg w] at hy; omega
          have e := ck.2.2
          rw [c1] at e
          rw [← e]
          unfold fv
          rw [hs]
          have : ((0 : Int) : Rat) = 0 := rfl
          grind
        refine ih (i + 1) M4 (by omega) o2 f2 W2 (T2.congr (fun a b ha hb => ?_))
        show (if a < i ∧ a ≠ k ∧ k ≤ b then B a b - B a k * B k b else B a b) = if a < i + 1 ∧ a ≠ k ∧ k ≤ b then B a b - B a k * B k b else B a b
        by_cases y : a < i ∧ a ≠ k ∧ k ≤ b
        · rw [if_pos y, if_pos (by omega)]
        · rw [if_neg y]
          by_cases z : a < i + 1 ∧ a ≠ k ∧ k ≤ b
          · have : a = i := by omega
            subst this
            rw [if_pos z, hz]
            grind
          · rw [if_neg z]
end VS
