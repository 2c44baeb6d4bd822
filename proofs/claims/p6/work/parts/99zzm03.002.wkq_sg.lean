section
section
variable {G : mG} {d w T A B D N C k : Nat} {M M' M1 : mM} {kw : (Nat → Int) → Nat → Nat → Int}
theorem x_Wo_add2 {s st am : Int} (hs : i32 s) (hst : i32 st) (ham : i32 am) (hO : mOk M) (h : WA M w T A B D N C) (hi : WI M w A B D N k) (hkN : k < N) (hC2 : C ≤ 16777216) (hw : wdk N s st am) : Cv G y_Wo_add d [vr w, vi s, vi st, vi am] M (fun M' => (mOk M' ∧ FI (woA w A B D) M M' ∧ WA M' w T A B D N C ∧ WI M' w A B D N (k + 1)) ∧ (∀ i, mI M' A i = if i = k then s else mI M A i) ∧ (∀ i, mI M' B i = if i = k then st else mI M B i) ∧ (∀ i, mI M' D i = if i = k then am else mI M D i)) := by
  have h8 := h.2.2.2.2.2.2.2.1
  refine (s_Wo_add hs hst ham hO h hi.1 (by omega) hC2).mono (fun M' q => ?_)
  obtain ⟨o, f, h', e2, eA, eB, eD⟩ := q
  exact ⟨⟨o, f, h', hi.add hw e2 eA eB eD⟩, eA, eB, eD⟩
theorem weq_dg {c : Nat → Int} {n i : Nat} (h : isDq (c i)) : weq c n i = enq isDq c (n - i) i := by
  have : ¬ isL (c i) := by unfold isL isDq at *; omega
  unfold weq
  rw [if_neg this, if_pos h]
theorem wkq_dg {c : Nat → Int} {n i : Nat} {k1 : Nat → Nat → Int} (h : isDq (c i)) : wkq k1 c n i = if 9 < weq c n i - i then 39 else 2 := by
  have : ¬ isL (c i) := by unfold isL isDq at *; omega
  unfold wkq
  rw [if_neg this, if_pos h]
theorem weq_lt {c : Nat → Int} {n i : Nat} (h : isL (c i)) : weq c n i = enq nmq c (n - i) i := by
  unfold weq
  rw [if_pos h]
theorem wkq_lt {c : Nat → Int} {n i : Nat} {k1 : Nat → Nat → Int} (h : isL (c i)) : wkq k1 c n i = if 40 < weq c n i - i then 39 else k1 i (weq c n i) := by
  unfold wkq
  rw [if_pos h]
theorem weq_sg {c : Nat → Int} {n i : Nat} (h : ¬ isL (c i)) (h2 : ¬ isDq (c i)) : weq c n i = if 16 ≤ sgk (c i) (lq c n (i + 1)) ∧ sgk (c i) (lq c n (i + 1)) ≤ 20 then i + 2 else i + 1 := by
  unfold weq
  rw [if_neg h, if_neg h2]
theorem wkq_sg {c : Nat → Int} {n i : Nat} {k1 : Nat → Nat → Int} (h : ¬ isL (c i)) (h2 : ¬ isDq (c i)) : wkq k1 c n i = sgk (c i) (lq c n (i + 1)) := by
  unfold wkq
  rw [if_neg h, if_neg h2]
end
end
