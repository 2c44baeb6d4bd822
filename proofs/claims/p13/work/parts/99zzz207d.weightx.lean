/-! The class's Solver: the weights exactly. -/
section NBW
variable {G : mG} {d s g cn cc bc i k n c lo hi un : Nat} {M M0 M' M1 M2 M3 : mM}
theorem p2m9 : ∀ (w v : Nat), v ≤ w → (2 : Int) ^ v ≤ 2 ^ w ∧ (0 : Int) < 2 ^ w
  | 0, v, h => by
    have e : v = 0 := by omega
    rw [e]
    exact ⟨Int.le_refl _, by decide⟩
  | w + 1, v, h => by
    have e : (2 : Int) ^ (w + 1) = 2 ^ w * 2 := Int.pow_succ 2 w
    have p := (p2m9 w 0 (by omega)).2
    by_cases c : v = w + 1
    · rw [c]
      exact ⟨Int.le_refl _, by rw [e]; omega⟩
    · have q := (p2m9 w v (by omega)).1
      exact ⟨by rw [e]; omega, by rw [e]; omega⟩
theorem wt_1 : wtA9 1 1 := by
  refine ⟨by decide, fun v hv => ?_⟩
  have e : v = 0 := by omega
  rw [e]
  decide
/-- gr is the greatest multiple of the commands from lo to c, at least 1 -/
def gmC (M : mM) (g lo c : Nat) (gr : Int) : Prop := (∀ c', lo ≤ c' → c' < c → mI M (g + 6) c' ≤ gr) ∧ (gr = 1 ∨ ∃ c', lo ≤ c' ∧ c' < c ∧ mI M (g + 6) c' = gr)
theorem gmC.step {gr v mu : Int} (h : gmC M g lo c gr) (hc : lo ≤ c) (e : mI M (g + 6) c = mu) (hv : (v = gr ∧ mu ≤ gr) ∨ (v = mu ∧ gr ≤ mu)) : gmC M g lo (c + 1) v := by
  refine ⟨fun c' a b => ?_, ?_⟩
  · by_cases z : c' = c
    · rw [z, e]
      rcases hv with y | y
      · rw [y.1]; exact y.2
      · rw [y.1]; exact Int.le_refl _
    · have q := h.1 c' a (by omega)
      rcases hv with y | y
      · rw [y.1]; exact q
      · rw [y.1]; exact Int.le_trans q y.2
  · rcases hv with y | y
    · rw [y.1]
      rcases h.2 with z | ⟨c', a, b, z⟩
      · exact Or.inl z
      · exact Or.inr ⟨c', a, by omega, z⟩
    · exact Or.inr ⟨c, hc, by omega, by rw [y.1]; exact e⟩
/-- the weight of the i-th unknown state -/
def weC (M : mM) (s g i w : Nat) : Prop := ∃ (k lo hi : Nat) (gr : Int), mI M (s + 125) i = ((k : Nat) : Int) ∧ mI M (s + 122) k = ((lo : Nat) : Int) ∧ mI M (s + 123) k = ((hi : Nat) : Int) ∧ gmC M g lo hi gr ∧ 1 ≤ gr ∧ wtA9 gr w
def wesX (M : mM) (s g un : Nat) (x : Int) (M' : mM) : Prop := M' = M ∧ ∃ wt : Nat → Nat, x = ((wsu wt un : Nat) : Int) ∧ ∀ i, i < un → weC M s g i (wt i) ∧ wt i ≤ 33
theorem x_wgh27 {l1 : Int} {hi' : Nat} (hg : SG M s g cn cc bc) (hL : LHs M s cn cc) (hU : Unk M s cn un) (hi : i < un) (hl : 0 ≤ l1 ∧ l1 ≤ 100000) (e1 : mI M (s + 125) i = ((k : Nat) : Int)) (hk : k < cn) (e2 : mI M (s + 122) k = ((lo : Nat) : Int)) (e3 : mI M (s + 123) k = ((hi' : Nat) : Int)) (lh : lo ≤ hi' ∧ hi' ≤ cc)
    (hQ : ∀ w : Nat, w ≤ 33 → weC M s g i w → h_So_weights_4 G d s (l1 + ((w : Nat) : Int)) ((i + 1 : Nat) : Int) M (wesX M s g un)) : ∀ (t c : Nat) (gr : Int), hi' ≤ c + t → lo ≤ c → c ≤ hi' → 1 ≤ gr → gr < 1000000000 → gmC M g lo c gr → h_So_weights_27 G d s l1 i gr c M (wesX M s g un) := by
  obtain ⟨o, ⟨⟨s0, gs⟩, ⟨-, -, -, r3, -, r5, r6, -, r8, -⟩, ⟨-, -, k5, k6, -, k8, -⟩, ⟨-, -, n5, n6, -, n8, -⟩⟩, ⟨g0, ⟨-, -, q6, -⟩, gk, ⟨-, -, m6, -⟩⟩, -, hT⟩ := id hg
  obtain ⟨hc1, hc2, hc3⟩ := hT.1
  have u40 := hU.2.1
  have fin : ∀ (c : Nat) (gr : Int), c = hi' → 1 ≤ gr → gr < 1000000000 → gmC M g lo c gr → Ci G y_JI_nlz d [vi (gr - 1)] M (fun x23 M22 => i32 x23 ∧ mOk M22 ∧ (h_So_weights_4 G d s (l1 + (33 - x23)) ((i : Int) + 1) M22 (wesX M s g un))) := by
    intro c gr ec g1 g2 gm
    have wo : ∀ w : Nat, wtA9 gr w → weC M s g i w := fun w hw => ⟨k, lo, hi', gr, e1, e2, e3, by rw [← ec]; exact gm, g1, hw⟩
    rw [show ((i : Int) + 1) = ((i + 1 : Nat) : Int) by omega]
    by_cases z : gr = 1
    · rw [z, show (1 : Int) - 1 = 0 by decide]
      refine (s_nlz0 (d := d) o).mono (fun x M' q => ?_)
      rw [q.1, q.2]
      refine ⟨⟨by decide, by decide⟩, o, ?_⟩
      have := hQ 1 (by decide) (wo 1 (by rw [z]; exact wt_1))
      rw [show l1 + (33 - 32) = l1 + ((1 : Nat) : Int) by omega]
      exact this
    · refine (s_nlz (d := d) (show 0 < gr - 1 by omega) ⟨by omega, by omega⟩ o).mono (fun x M' q => ?_)
      obtain ⟨e, kk, ek, k31, q1, q2⟩ := q
      rw [e, ek]
      refine ⟨⟨by omega, by omega⟩, o, ?_⟩
      have p1 : (2 : Int) ^ (33 - kk) = 2 ^ (32 - kk) * 2 := by rw [show 33 - kk = (32 - kk) + 1 by omega, Int.pow_succ]
      have p2 : (2 : Int) ^ (32 - kk) = 2 ^ (31 - kk) * 2 := by rw [show 32 - kk = (31 - kk) + 1 by omega, Int.pow_succ]
      have w1 : wtA9 gr (33 - kk) := ⟨by rw [p1]; omega, fun v hv => by
        have := p2m9 (32 - kk) v (by omega)
        omega⟩
      have := hQ (33 - kk) (by omega) (wo _ w1)
      rw [show l1 + (33 - ((kk : Nat) : Int)) = l1 + ((33 - kk : Nat) : Int) by omega]
      exact this
  intro t
  induction t with
  | zero =>
    intro c gr h1 h2 h3 g1 g2 gm
    refine k_So_weights_27 o ⟨by omega, by omega⟩ ⟨by omega, by omega⟩ ⟨by omega, by omega⟩ ⟨by omega, by omega⟩ ?_
    rw [r8, n8, r6, n6, Int.toNat_natCast, e1, Int.toNat_natCast, e3]
    exact ⟨s0, k8, ⟨by omega, by omega⟩, k6, ⟨by omega, by omega⟩, fun _ => fin c gr (by omega) g1 g2 gm, fun u => absurd (by omega) u⟩
  | succ t ih =>
    intro c gr h1 h2 h3 g1 g2 gm
    refine k_So_weights_27 o ⟨by omega, by omega⟩ ⟨by omega, by omega⟩ ⟨by omega, by omega⟩ ⟨by omega, by omega⟩ ?_
    rw [r8, n8, r6, n6, Int.toNat_natCast, e1, Int.toNat_natCast, e3]
    refine ⟨s0, k8, ⟨by omega, by omega⟩, k6, ⟨by omega, by omega⟩, fun u => fin c gr (by omega) g1 g2 gm, fun u => ?_⟩
    obtain ⟨x, y, mu, -, -, -, -, -, e6, mu1, mu2, -⟩ := hT.2.1 c (by omega)
    rw [r3, q6, m6, Int.toNat_natCast, show ((c : Int) + 1) = ((c + 1 : Nat) : Int) by omega, e6]
    refine ⟨g0, gk 6 (by decide) (by decide), ⟨by omega, by omega⟩, ih (c + 1) _ (by omega) (by omega) (by omega) ?_ ?_ ?_⟩
    · split <;> omega
    · split <;> omega
    · refine gm.step h2 e6 ?_
      split <;> omega
theorem x_So_weights (hg : SG M s g cn cc bc) (hL : LHs M s cn cc) (hU : Unk M s cn un) : Ci G y_So_weights (d + 1) [vr s] M (wesX M s g un) := by
  obtain ⟨o, ⟨⟨s0, gs⟩, ⟨-, -, -, r3, -, r5, r6, -, r8, -⟩, ⟨-, -, k5, k6, -, k8, -⟩, ⟨-, -, n5, n6, -, n8, -⟩⟩, -, -, hT⟩ := id hg
  obtain ⟨hc1, hc2, hc3⟩ := hT.1
  obtain ⟨u1, u2, u3, u4⟩ := id hU
  refine k_So_weights o ?_
  suffices HH : ∀ (t i : Nat) (wt : Nat → Nat), un ≤ i + t → i ≤ un → (∀ j, j < i → weC M s g j (wt j) ∧ wt j ≤ 33) → wsu wt i ≤ 33 * i → h_So_weights_4 G d s ((wsu wt i : Nat) : Int) i M (wesX M s g un) from HH un 0 (fun _ => 0) (by omega) (by omega) (fun j hj => absurd hj (by omega)) (by decide)
  intro t
  induction t with
  | zero =>
    intro i wt h1 h2 hw hb
    have ei : i = un := by omega
    subst ei
    refine k_So_weights_4 o ⟨by omega, by omega⟩ ⟨by omega, by omega⟩ ?_
    rw [u1]
    exact ⟨s0, fun _ => ⟨rfl, wt, rfl, hw⟩, fun u => absurd (Int.le_refl _) u⟩
  | succ t ih =>
    intro i wt h1 h2 hw hb
    by_cases ei : i = un
    · exact ih i wt (by omega) h2 hw hb
    have hi : i < un := by omega
    obtain ⟨k, c, lo, hi', e1, hk, e4, e2, e3, l1, l2⟩ := u4 i hi
    obtain ⟨lo', hi2, f1, f2, f3, f4⟩ := hL k hk
    refine k_So_weights_4 o ⟨by omega, by omega⟩ ⟨by omega, by omega⟩ ?_
    rw [u1, r8, n8, r5, n5, Int.toNat_natCast, e1, Int.toNat_natCast, e2]
    refine ⟨s0, fun u => absurd u (by omega), fun _ => ⟨k8, ⟨by omega, by omega⟩, k5, ⟨by omega, by omega⟩, ?_⟩⟩
    refine x_wgh27 hg hL hU hi ⟨by omega, by omega⟩ e1 hk e2 e3 ⟨by omega, by omega⟩ (fun w w33 wo => ?_) (hi' - lo) lo 1 (by omega) (Nat.le_refl _) (by omega) (by decide) (by decide) ⟨fun c' h1 h2 => absurd h2 (by omega), Or.inl rfl⟩
    have cg : wsu (fun j => if j = i then w else wt j) i = wsu wt i := wsu_cg i (fun j hj => by rw [if_neg (by omega)])
    have sm : wsu (fun j => if j = i then w else wt j) (i + 1) = wsu wt i + w := by
      show wsu (fun j => if j = i then w else wt j) i + (if i = i then w else wt i) = _
      rw [cg, if_pos rfl]
    have := ih (i + 1) (fun j => if j = i then w else wt j) (by omega) (by omega) (fun j hj => by
      by_cases cj : j = i
      · show weC M s g j (if j = i then w else wt j) ∧ (if j = i then w else wt j) ≤ 33
        rw [if_pos cj, cj]; exact ⟨wo, w33⟩
      · show weC M s g j (if j = i then w else wt j) ∧ (if j = i then w else wt j) ≤ 33
        rw [if_neg cj]; exact hw j (by omega)) (by rw [sm]; omega)
    rw [sm] at this
    rw [show ((wsu wt i : Nat) : Int) + ((w : Nat) : Int) = ((wsu wt i + w : Nat) : Int) by omega]
    exact this
end NBW
