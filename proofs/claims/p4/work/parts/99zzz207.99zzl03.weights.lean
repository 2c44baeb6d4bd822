/-! The class's Solver: weights; numbers of ways. -/
section NBP
variable {G : mG} {d s g cn cc bc i k n c lo hi un : Nat} {M M0 M' M1 M2 M3 : mM}
def wsu (wt : Nat → Nat) : Nat → Nat
  | 0 => 0
  | n + 1 => wsu wt n + wt n
theorem wsu_cg {f h : Nat → Nat} : ∀ n, (∀ i, i < n → f i = h i) → wsu f n = wsu h n
  | 0, _ => rfl
  | n + 1, e => by
    show wsu f n + f n = wsu h n + h n
    rw [wsu_cg n (fun i hi => e i (by omega)), e n (by omega)]
theorem wsu_le {f h : Nat → Nat} : ∀ n, (∀ i, i < n → f i ≤ h i) → wsu f n ≤ wsu h n
  | 0, _ => Nat.le_refl _
  | n + 1, e => Nat.add_le_add (wsu_le n (fun i hi => e i (by omega))) (e n (by omega))
/-- every command that is left for the unknown state i has a multiple below 2^w -/
def wtO (M : mM) (s g i w : Nat) : Prop := ∀ k lo hi c : Nat, mI M (s + 125) i = ((k : Nat) : Int) → mI M (s + 122) k = ((lo : Nat) : Int) → mI M (s + 123) k = ((hi : Nat) : Int) → lo ≤ c → c < hi → mI M (g + 6) c < 2 ^ w
def wesQ (M : mM) (s g un : Nat) (x : Int) (M' : mM) : Prop := M' = M ∧ ∃ wt : Nat → Nat, x = ((wsu wt un : Nat) : Int) ∧ ∀ i, i < un → wtO M s g i (wt i) ∧ wt i ≤ 33
theorem s_nlz0 (hO : mOk M) : Ci G y_JI_nlz d [vi 0] M (fun r M' => M' = M ∧ r = 32) := k_JI_nlz hO ⟨by decide, by decide⟩ ⟨fun u => absurd u (by decide), fun _ v41 e41 => ⟨rfl, by rw [e41, if_pos rfl]⟩⟩
theorem s_wgh27 {l1 : Int} {hi' : Nat} (hg : SG M s g cn cc bc) (hL : LHs M s cn cc) (hU : Unk M s cn un) (hi : i < un) (hl : 0 ≤ l1 ∧ l1 ≤ 100000) (e1 : mI M (s + 125) i = ((k : Nat) : Int)) (hk : k < cn) (e2 : mI M (s + 122) k = ((lo : Nat) : Int)) (e3 : mI M (s + 123) k = ((hi' : Nat) : Int)) (lh : lo ≤ hi' ∧ hi' ≤ cc)
    (hQ : ∀ w : Nat, w ≤ 33 → wtO M s g i w → h_So_weights_4 G d s (l1 + ((w : Nat) : Int)) ((i + 1 : Nat) : Int) M (wesQ M s g un)) : ∀ (t c : Nat) (gr : Int), hi' ≤ c + t → lo ≤ c → c ≤ hi' → 1 ≤ gr → gr < 1000000000 → (∀ c', lo ≤ c' → c' < c → mI M (g + 6) c' ≤ gr) → h_So_weights_27 G d s l1 i gr c M (wesQ M s g un) := by
  obtain ⟨o, ⟨⟨s0, gs⟩, ⟨-, -, -, r3, -, r5, r6, -, r8, -⟩, ⟨-, -, k5, k6, -, k8, -⟩, ⟨-, -, n5, n6, -, n8, -⟩⟩, ⟨g0, ⟨-, -, q6, -⟩, gk, ⟨-, -, m6, -⟩⟩, -, hT⟩ := id hg
  obtain ⟨hc1, hc2, hc3⟩ := hT.1
  have u40 := hU.2.1
  have fin : ∀ (c : Nat) (gr : Int), c = hi' → 1 ≤ gr → gr < 1000000000 → (∀ c', lo ≤ c' → c' < c → mI M (g + 6) c' ≤ gr) → Ci G y_JI_nlz d [vi (gr - 1)] M (fun x23 M22 => i32 x23 ∧ mOk M22 ∧ (h_So_weights_4 G d s (l1 + (33 - x23)) ((i : Int) + 1) M22 (wesQ M s g un))) := by
    intro c gr ec g1 g2 gm
    have wo : ∀ w : Nat, gr < 2 ^ w → wtO M s g i w := by
      intro w hw k' lo' hi2 c' f1 f2 f3 f4 f5
      have ek : k' = k := by rw [e1] at f1; omega
      subst ek
      rw [e2] at f2
      rw [e3] at f3
      have := gm c' (by omega) (by omega)
      omega
    rw [show ((i : Int) + 1) = ((i + 1 : Nat) : Int) by omega]
    by_cases z : gr = 1
    · rw [z, show (1 : Int) - 1 = 0 by decide]
      refine (s_nlz0 (d := d) o).mono (fun x M' q => ?_)
      rw [q.1, q.2]
      refine ⟨⟨by decide, by decide⟩, o, ?_⟩
      have := hQ 1 (by decide) (wo 1 (by rw [z]; decide))
      rw [show l1 + (33 - 32) = l1 + ((1 : Nat) : Int) by omega]
      exact this
    · refine (s_nlz (d := d) (show 0 < gr - 1 by omega) ⟨by omega, by omega⟩ o).mono (fun x M' q => ?_)
      obtain ⟨e, kk, ek, k31, q1, q2⟩ := q
      rw [e, ek]
      refine ⟨⟨by omega, by omega⟩, o, ?_⟩
      have w1 : gr < 2 ^ (33 - kk) := by
        rw [show 33 - kk = (32 - kk) + 1 by omega, Int.pow_succ]
        omega
      have := hQ (33 - kk) (by omega) (wo _ w1)
      rw [show l1 + (33 - ((kk : Nat) : Int)) = l1 + ((33 - kk : Nat) : Int) by omega]
      exact this
  intro t
  induction t with
  | zero =>
    intro c gr h1 h2 h3 g1 g2 gm
    refine k_So_weights_27 o ⟨by omega, by omega⟩ ⟨by omega, by omega⟩ ⟨by omega, by omega⟩ ⟨by omega, by omega⟩ ?_
    rw [r8, n8, r6, n6, Int.toNat_natCast, e1, Int.toNat_natCast, e3]
    exact ⟨s0, k8, ⟨by omega, by omega⟩, k6, ⟨by omega, by omega⟩, fun _ => fin c gr (by omega) g1 g2 gm, fun u => absurd (by omega) u⟩
  | succ t ih =>
    intro c gr h1 h2 h3 g1 g2 gm
    refine k_So_weights_27 o ⟨by omega, by omega⟩ ⟨by omega, by omega⟩ ⟨by omega, by omega⟩ ⟨by omega, by omega⟩ ?_
    rw [r8, n8, r6, n6, Int.toNat_natCast, e1, Int.toNat_natCast, e3]
    refine ⟨s0, k8, ⟨by omega, by omega⟩, k6, ⟨by omega, by omega⟩, fun u => fin c gr (by omega) g1 g2 gm, fun u => ?_⟩
    obtain ⟨x, y, mu, -, -, -, -, -, e6, mu1, mu2, -⟩ := hT.2.1 c (by omega)
    rw [r3, q6, m6, Int.toNat_natCast, show ((c : Int) + 1) = ((c + 1 : Nat) : Int) by omega, e6]
    refine ⟨g0, gk 6 (by decide) (by decide), ⟨by omega, by omega⟩, ih (c + 1) _ (by omega) (by omega) (by omega) ?_ ?_ (fun c' h4 h5 => ?_)⟩
    · split <;> omega
    · split <;> omega
    · by_cases cj : c' = c
      · rw [cj, e6]; split <;> omega
      · have := gm c' h4 (by omega)
        split <;> omega
theorem s_So_weights (hg : SG M s g cn cc bc) (hL : LHs M s cn cc) (hU : Unk M s cn un) : Ci G y_So_weights (d + 1) [vr s] M (wesQ M s g un) := by
  obtain ⟨o, ⟨⟨s0, gs⟩, ⟨-, -, -, r3, -, r5, r6, -, r8, -⟩, ⟨-, -, k5, k6, -, k8, -⟩, ⟨-, -, n5, n6, -, n8, -⟩⟩, -, -, hT⟩ := id hg
  obtain ⟨hc1, hc2, hc3⟩ := hT.1
  obtain ⟨u1, u2, u3, u4⟩ := id hU
  refine k_So_weights o ?_
  suffices HH : ∀ (t i : Nat) (wt : Nat → Nat), un ≤ i + t → i ≤ un → (∀ j, j < i → wtO M s g j (wt j) ∧ wt j ≤ 33) → wsu wt i ≤ 33 * i → h_So_weights_4 G d s ((wsu wt i : Nat) : Int) i M (wesQ M s g un) from HH un 0 (fun _ => 0) (by omega) (by omega) (fun j hj => absurd hj (by omega)) (by decide)
  intro t
  induction t with
  | zero =>
    intro i wt h1 h2 hw hb
    have ei : i = un := by omega
    subst ei
    refine k_So_weights_4 o ⟨by omega, by omega⟩ ⟨by omega, by omega⟩ ?_
    rw [u1]
    exact ⟨s0, fun _ => ⟨rfl, wt, rfl, hw⟩, fun u => absurd (Int.le_refl _) u⟩
  | succ t ih =>
    intro i wt h1 h2 hw hb
    by_cases ei : i = un
    · exact ih i wt (by omega) h2 hw hb
    have hi : i < un := by omega
    obtain ⟨k, c, lo, hi', e1, hk, e4, e2, e3, l1, l2⟩ := u4 i hi
    obtain ⟨lo', hi2, f1, f2, f3, f4⟩ := hL k hk
    refine k_So_weights_4 o ⟨by omega, by omega⟩ ⟨by omega, by omega⟩ ?_
    rw [u1, r8, n8, r5, n5, Int.toNat_natCast, e1, Int.toNat_natCast, e2]
    refine ⟨s0, fun u => absurd u (by omega), fun _ => ⟨k8, ⟨by omega, by omega⟩, k5, ⟨by omega, by omega⟩, ?_⟩⟩
    refine s_wgh27 hg hL hU hi ⟨by omega, by omega⟩ e1 hk e2 e3 ⟨by omega, by omega⟩ (fun w w33 wo => ?_) (hi' - lo) lo 1 (by omega) (Nat.le_refl _) (by omega) (by decide) (by decide) (fun c' h1 h2 => absurd h2 (by omega))
    have cg : wsu (fun j => if j = i then w else wt j) i = wsu wt i := wsu_cg i (fun j hj => by rw [if_neg (by omega)])
    have sm : wsu (fun j => if j = i then w else wt j) (i + 1) = wsu wt i + w := by
      show wsu (fun j => if j = i then w else wt j) i + (if i = i then w else wt i) = _
      rw [cg, if_pos rfl]
    have := ih (i + 1) (fun j => if j = i then w else wt j) (by omega) (by omega) (fun j hj => by
      by_cases cj : j = i
      · show wtO M s g j (if j = i then w else wt j) ∧ (if j = i then w else wt j) ≤ 33
        rw [if_pos cj, cj]; exact ⟨wo, w33⟩
      · show wtO M s g j (if j = i then w else wt j) ∧ (if j = i then w else wt j) ≤ 33
        rw [if_neg cj]; exact hw j (by omega)) (by rw [sm]; omega)
    rw [sm] at this
    rw [show ((wsu wt i : Nat) : Int) + ((w : Nat) : Int) = ((wsu wt i + w : Nat) : Int) by omega]
    exact this
end NBP
