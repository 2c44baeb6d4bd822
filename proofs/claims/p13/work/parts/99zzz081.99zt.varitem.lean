/-! The reference: whole numbers and first values of variables. -/
section VI
variable {G : mG} {d a g R W C Z T N K : Nat} {M M2 M3 : mM} {E : Eg9} {F : Prop}
theorem rwd_all {w : Nat → Int} {c i j m : Nat} (h : Eo w c i j) (h1 : i ≤ m) (h2 : m < j) : rwd (w m) := by
  have := (h.pr.2.2.2.2.1.2.2.2 (m - i) (by omega)).1
  rw [show i + (m - i) = m by omega] at this
  exact this
theorem s_MM_initOf {p i e : Nat} (h : Lc M a g N T K) (h1 : p ≤ i) (h2 : i ≤ e) (he : e < N) (hn : ∀ m, p ≤ m → m < i → wk M a m ≠ 9) (hi : i = e ∨ wk M a i = 9) : Ci G y_MM_initOf (d + 2) [vr a, vi p, vi e] M (fun x M' => M' = M ∧ x = i) := by
  have hN := h.2.1.1.2.2
  have w := h.2.1.1.1
  refine k_MM_initOf h.1 (i32s (by omega) (by omega)) (i32s (by omega) (by omega)) ?_
  suffices H : ∀ (c m : Nat), m + c = i → p ≤ m → h_MM_initOf_2 G (d + 1) a e m M (fun x M' => M' = M ∧ x = i) from H (i - p) p (by omega) (Nat.le_refl _)
  intro c
  induction c with
  | zero =>
    intro m hm hp
    have e1 : m = i := by omega
    subst e1
    refine k_MM_initOf_2 h.1 (i32s (by omega) (by omega)) (i32s (by omega) (by omega)) ⟨fun _ => ⟨rfl, rfl⟩, fun q => ⟨w.1.1, h.wd (d := d) (by omega) (fun z hz iz => ⟨iz, h.1, fun _ => ⟨rfl, rfl⟩, fun q2 => ?_⟩)⟩⟩
    rcases hi with y | y
    · omega
    · exact absurd (hz.trans y) q2
  | succ c ih =>
    intro m hm hp
    refine k_MM_initOf_2 h.1 (i32s (by omega) (by omega)) (i32s (by omega) (by omega)) ⟨fun q => by omega, fun q => ⟨w.1.1, h.wd (d := d) (by omega) (fun z hz iz => ⟨iz, h.1, fun q2 => absurd (hz.symm.trans q2) (hn m hp (by omega)), fun q2 => ?_⟩)⟩⟩
    have := ih (m + 1) (by omega) (by omega)
    rw [show ((m + 1 : Nat) : Int) = (m : Int) + 1 by omega] at this
    exact this
theorem nme.wk {v : Int} {b : Nat} (h : nme F M g b W v) : nme True M g b W v := by
  rcases h with ⟨h1, h2, -⟩ | ⟨-, h⟩
  · exact Or.inl ⟨h1, h2, Or.inl trivial⟩
  · exact Or.inr ⟨trivial, h⟩
theorem Gn.nm {v : Int} {b : Nat} (h : Gn M g R W T M2) (hb : b ≤ R) (hv : nme F M g b W v) : nme F M2 g b W v := by
  rcases hv with ⟨h1, h2, h3⟩ | h'
  · refine Or.inl ⟨h1, h2, h3.imp (fun z => z) (fun z => ?_)⟩
    rw [(h.2.1 v.toNat (by omega)).1]
    exact z
  · exact Or.inr h'
/-- a rule made of constants alone -/
def Cte (M : mM) (g R W T n : Nat) (t : Int) : Prop := ∃ f e : Nat, Ty (nme False M g R W) (tn M g) M g f 0 n e (fun _ => t) ∧ e ≤ T
theorem Cte.gn {n : Nat} {t : Int} (h : Cte M g R W T n t) (k : Gn M g R W T M2) (hR : R ≤ 60) : Cte M2 g R W T n t := by
  obtain ⟨f, e, h1, h2⟩ := h
  exact ⟨f, e, (h1.mono (nm' := nme False M2 g R W) (w' := tn M2 g) (fun v hv => ⟨k.nm (Nat.le_refl _) hv, k.tnm hR hv.wk (Nat.le_refl _)⟩)).fr (fun n _ n2 => ⟨(k.1 n (by omega)).1, (k.1 n (by omega)).2.1, (k.1 n (by omega)).2.2.1⟩) (fun n _ n2 => (k.1 n (by omega)).2.2.2.1) (fun z => absurd rfl z), h2⟩
theorem Cte.up {n T' : Nat} {t : Int} (h : Cte M g R W T n t) (hT : T ≤ T') : Cte M g R W T' n t := by
  obtain ⟨f, e, h1, h2⟩ := h
  exact ⟨f, e, h1, by omega⟩
end VI
