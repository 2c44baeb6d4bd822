/-! The keywords of class and reference, exactly. -/
section KYX
variable {G : mG}
/-- the kind of a name -/
def kwx (T : Nat → Int) (p e : Nat) : Int := kwq (wlq T p e)
theorem NSx.of (h : LT G) : NSx G kwx := fun d w T A B D N C p n M hO hw h1 h2 h3 => (s_Wo_nameSort h.1 h.2.1 hO hw h1 h3).mono (fun r M' q => ⟨q.1, q.2.1, by
  obtain ⟨-, ⟨r1, r2, r3⟩, r4⟩ := q
  show r = csq (kwq (wlq (mI M T) p (p + n)))
  unfold csq
  rw [if_neg (by omega), if_neg (by omega)]
  exact r4⟩)
theorem WKx.of (h : LT G) : WKx G kwx := fun d a f e M hO hw h1 h2 h3 h4 => s_MM_wordKind h.1 h.2.2 hO hw ⟨by omega, h1, h3⟩ h2
end KYX
