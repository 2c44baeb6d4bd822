/-! The reference: a node's value from its parts' values. -/
section FI2
variable {G : mG} {F : Prop} {d a g R W T V n : Nat} {M : mM} {Q : mM → Prop}
theorem s_fin32 {nm : Int → Prop} {s p : Int} (is : i32 s) (ip : i32 p) (h : Ev F M a g R W T) : ∀ (k f n e c : Nat), 1 ≤ k → Tn nm M g f k n e → e ≤ T → c + k ≤ 100000 → h_MM_finish_32 G d a g s p (c + k : Nat) (-1) M Q → h_MM_finish_32 G d a g s p c n M Q := by
  obtain ⟨hO, w, hg, hd, hB, -, -⟩ := h
  have gp := w.gp hg
  have i11 := tL_in (a := a) (q := g + 11) hg (tLk11 g)
  have l11 := hd (g + 11) (by first | exact tLk11 g | omega)
  have r5 : mR M g 5 = g + 11 := gp.2.1.2.2.2.2.2.1
  intro k
  induction k with
  | zero => intro f n e c hk; omega
  | succ k ih =>
    intro f n e c hk ht he hc hQ
    have hlt := ht.lt
    cases f with
    | zero => exact ht.elim
    | succ f =>
      have ht' : Tn nm M g (f + 1) (k + 1) n e := ht
      rw [Tn, if_neg (by omega)] at ht'
      refine k_MM_finish_32 hO is ip (i32s (by omega) (by omega)) (i32s (by omega) (by omega)) ⟨fun q => by omega, fun _ => ?_⟩
      rw [r5]
      refine ⟨gp.1, (w.nu i11).1, (s_MN_at hO (w.nu i11) (by omega)).mono (fun z M1 e1 => ?_)⟩
      obtain ⟨e1, hz⟩ := e1
      subst e1
      refine ⟨by rw [hz]; exact (hO _ _).1, hO, ?_⟩
      by_cases k0 : k + 1 = 1
      · rw [if_pos k0] at ht'
        rw [show z = -1 from hz.trans ht'.1, show (c : Int) + 1 = ((c + (k + 1) : Nat) : Int) by omega]
        exact hQ
      · rw [if_neg k0] at ht'
        obtain ⟨m, q1, q2, q3⟩ := ht'
        rw [show z = (m : Int) from hz.trans q1, show (c : Int) + 1 = ((c + 1 : Nat) : Int) by omega]
        refine ih f m e (c + 1) (by omega) q3 he (by omega) ?_
        rw [show c + 1 + k = c + (k + 1) by omega]
        exact hQ
/-- a field is written first -/
theorem rkQ.pre {t : Int} {M2 M' : mM} (m : Mv (fun _ => False) (fun x => x = a) M a M2) (f : ∀ i, i ≠ 23 → mI M2 a i = mI M a i) (w : Wd M a) (h : rkQ M2 a V t M') : rkQ M a V t M' := by
  have z := w.2.2.2
  have cl : ∀ x, x < mZ M → x ≠ a → mL M2 x = mL M x := fun x hx hne => (m.2.2.2.1.2.2.2.1 x hx (fun y => y) (fun p y => y.elim) hne).2
  obtain ⟨h1, h2, h3, h4⟩ := h
  refine ⟨(m.mono (fun _ y => y) (fun x y => Or.inl y) (fun _ y => y.elim)).trans h1, fun i i1 i2 i3 => (h2 i i1 i2 i3).trans (f i i3), fun k hk => ⟨by rw [(h3 k hk).1, cl _ (by omega) (by omega)], by rw [(h3 k hk).2, cl _ (by omega) (by omega)]⟩, ?_⟩
  rw [← f 16 (by omega)]
  exact h4
end FI2
