section
section
variable {G : mG} {d z q w T A B D N C n p O P K Ab Be Cm V F c s L L' cnt Bn a d0 V1 F1 : Nat} {M0 M M' M1 M2 : mM} {ns ns' ns1 : Nat → Int} {sf ef sf' ef' : Nat → Nat} {H : Nat → Nat} {S R : Nat → Prop} {W pl nq : Nat → Int} {sm : Nat → Nat → Prop} {nms : List nm9} {u : Ru} {ft : Int × Int} {zz zr : List Int}
/-- words stay -/
theorem TP.txt (h : TP M z q w T A B D N C n p O P K Ab Be Cm) (f : FI (txS q p O P) M M') : mI M' T = mI M T := by
  have ap := h.apart
  obtain ⟨⟨-, -, -, -, -, b6, -⟩, -, -, -, -, ⟨-, -, s3⟩, -⟩ := h
  refine f.2.2.2.2.2.2 T (fun y => ?_)
  exact t6a (s3 T (Or.inr (Or.inl rfl))).1 (b6.2.2 T (Or.inr (Or.inl rfl))) y
theorem WTq.fi (wt : WTq M T A B D n W pl nq sm) (h : TP M z q w T A B D N C n p O P K Ab Be Cm) (f : FI (txS q p O P) M M') : WTq M' T A B D n W pl nq sm := by
  obtain ⟨e1, e2, e3, -⟩ := h.words f
  exact wt.cg (h.txt f) e1 e2 e3
theorem x_tx_accept {x : Int} (hx : i32 x) (x0 : x ≠ 0) (h : TX M z q w T A B D N C n p O P K Ab Be Cm V F ns sf ef c cnt L) (ha : mI M (q + 1) 2 = a) (han : a ≤ n) : Ci G y_RR_accept d [vr (q + 1), vi x] M (fun v M' => i32 v ∧ mOk M' ∧ (v = 0 ∨ v = 1) ∧ TX M' z q w T A B D N C n p O P K Ab Be Cm V F ns sf ef c cnt L ∧ txF M q p O P L M' ∧ ((v = 1 ∧ mI M A a = x ∧ mI M' (q + 1) 2 = ((a + 1 : Nat) : Int) ∧ a < n) ∨ (v = 0 ∧ M' = M)) ∧ (∀ i, i ≠ 2 → mI M' (q + 1) i = mI M (q + 1) i) ∧ (∀ b, b ≠ q + 1 → mI M' b = mI M b) ∧ (v = 0 → mI M A a ≠ x)) := by
  refine (s_RR_accept hx h.1.1 ha han).mono (fun v M' k => ?_)
  obtain ⟨k1, k2⟩ := k
  rcases k2 with ⟨e1, e2, e3, e4⟩ | ⟨e1, e2, e3⟩
  · have hN : n ≤ 16384 := by have := h.1.1.2.2.2.1.2.2.1; have := h.1.1.2.2.2.1.1.2.2.2.2.2.2.1; omega
    have u := tx_ui h ⟨by omega, by omega⟩ e3 (Or.inr (Or.inr (Or.inr (Or.inl ⟨rfl, Or.inl rfl⟩))))
    have an : a < n := by
      have : a ≠ n := fun y => by
        have hA := h.1.1.2.2.2.1.2.2.2.2.1
        rw [y, hA] at e2
        exact x0 e2.symm
      omega
    refine ⟨by rw [e1]; exact i32s (by omega) (by omega), k1.1, Or.inr e1, u.1, u.2.1, Or.inl ⟨e1, e2, by rw [e4]; omega, an⟩, fun i hi => by rw [u.2.2, if_neg (fun y => hi y.2)], fun b hb => ?_, fun y => by rw [y] at e1; exact absurd e1 (by decide)⟩
    funext i
    rw [u.2.2, if_neg (fun y => hb y.1)]
  · subst e3
    exact ⟨by rw [e1]; exact i32s (by omega) (by omega), k1.1, Or.inl e1, h, txF.refl, Or.inr ⟨e1, rfl⟩, fun _ _ => rfl, fun _ _ => rfl, fun _ => e2⟩
theorem x_tx_note {x y : Int} (hx : i32 x) (x0 : x ≠ 0) (hy : i32 y) (h : TX M z q w T A B D N C n p O P K Ab Be Cm V F ns sf ef c cnt L) : Cv G y_RR_note d [vr (q + 1), vi x, vi y] M (fun M' => mOk M' ∧ TX M' z q w T A B D N C n p O P K Ab Be Cm V F ns sf ef c cnt L ∧ txF M q p O P L M' ∧ mI M' (q + 1) 3 ≠ 0 ∧ (∀ i, i ≠ 3 → i ≠ 4 → mI M' (q + 1) i = mI M (q + 1) i) ∧ (∀ b, b ≠ q + 1 → mI M' b = mI M b) ∧ Fqq M (q + 1) (x, y) M') := by
  have ap := h.1.apart
  have qp := h.1.2.2.2.2.2.1.2.1
  refine (x_RR_note hx hy h.1.1).mono (fun M' k => ?_)
  obtain ⟨k1, k2, k3, k4, k5, k6⟩ := k
  have n3 : mI M' (q + 1) 3 ≠ 0 := by
    by_cases u : mI M (q + 1) 3 = 0
    · rw [k4 u]; exact x0
    · rw [k5 u]; exact u
  have nb : ∀ b, b ≠ q + 1 → mI M' b = mI M b := fun b hb => k2.2.2.2.2.2.2 b hb
  have ff : txF M q p O P L M' := ⟨k2.mono (fun b y => Or.inl (by have y' : b = q + 1 := y; omega)), fun i _ i3 i4 _ _ _ _ _ => k3 i i3 i4, fun _ => n3, fun i _ _ => nb _ (by omega), fun i _ => by rw [nb p (by first | (have h1 := qp; omega) | omega)], fun i _ _ => nb _ (by omega), fun i _ => ⟨by rw [nb O (by first | (have h1 := ap.2.2.2.1; have h2 := ap.2.1; omega) | omega)], by rw [nb P (by first | (have h1 := ap.2.2.2.2.1; have h2 := ap.2.2.1; omega) | omega)]⟩⟩
  exact ⟨k1.1, h.tx k1.1 ff (fun j => by rw [nb _ (by omega)]; exact h.2.1.2.2.2 j), ff, n3, k3, nb, k6 x0⟩
end
end
