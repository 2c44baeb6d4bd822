/-! The class's Solver: weights; numbers of ways. -/
section NBP
variable {G : mG} {d s g cn cc bc i k n c lo hi un : Nat} {M M0 M' M1 M2 M3 : mM}
def wsu (wt : Nat → Nat) : Nat → Nat
  | 0 => 0
  | n + 1 => wsu wt n + wt n
theorem wsu_cg {f h : Nat → Nat} : ∀ n, (∀ i, i < n → f i = h i) → wsu f n = wsu h n
  | 0, _ => rfl
  | n + 1, e => by
    show wsu f n + f n = wsu h n + h n
    rw [wsu_cg n (fun i hi => e i (by omega)), e n (by omega)]
theorem wsu_le {f h : Nat → Nat} : ∀ n, (∀ i, i < n → f i ≤ h i) → wsu f n ≤ wsu h n
  | 0, _ => Nat.le_refl _
  | n + 1, e => Nat.add_le_add (wsu_le n (fun i hi => e i (by omega))) (e n (by omega))
/-- every command that is left for the unknown state i has a multiple below 2^w -/
def wtO (M : mM) (s g i w : Nat) : Prop := ∀ k lo hi c : Nat, mI M (s + 125) i = ((k : Nat) : Int) → mI M (s + 122) k = ((lo : Nat) : Int) → mI M (s + 123) k = ((hi : Nat) : Int) → lo ≤ c → c < hi → mI M (g + 6) c < 2 ^ w
theorem s_nlz0 (hO : mOk M) : Ci G y_JI_nlz d [vi 0] M (fun r M' => M' = M ∧ r = 32) := k_JI_nlz hO ⟨by decide, by decide⟩ ⟨fun u => absurd u (by decide), fun _ v41 e41 => ⟨rfl, by rw [e41, if_pos rfl]⟩⟩
end NBP
