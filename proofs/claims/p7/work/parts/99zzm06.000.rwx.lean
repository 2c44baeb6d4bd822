section
/-- the text's characters, and how many -/
abbrev txc (M : mM) (a : Nat) : Nat → Int := nt M (mR M a 2)
def txn (M : mM) (a : Nat) : Nat := (ln M (mR M a 2)).toNat
/-- what wordKind answers -/
def WKx (G : mG) (kw : (Nat → Int) → Nat → Nat → Int) : Prop := ∀ (d a f e : Nat) (M : mM), mOk M → Wd M a → f < e → (e : Int) ≤ ln M (mR M a 2) → e ≤ f + 40 → ln M (mR M a 2) ≤ 16384 → Ci G y_MM_wordKind (d + 5) [vr a, vi f, vi e] M (fun x M' => M' = M ∧ (1 ≤ x ∧ x ≤ 15 ∧ x ≠ 2) ∧ x = kw (txc M a) f e)
/-- c words have been cut, at place i -/
def rwI (kw : (Nat → Int) → Nat → Nat → Int) (C : Nat → Int) (n : Nat) (a c i : Nat) (M5 : mM) : Prop := (∀ j, j < c → pwq C n j < n ∧ wkq (kw C) C n (pwq C n j) ≠ 39 ∧ nt M5 (a + 5) j = wkq (kw C) C n (pwq C n j) ∧ nt M5 (a + 7) j = pwq C n j ∧ nt M5 (a + 9) j = weq C n (pwq C n j)) ∧ i = pwq C n c
/-- the reference's words: N of them, the last the end or a wrong one -/
def rwx (kw : (Nat → Int) → Nat → Nat → Int) (C : Nat → Int) (n : Nat) (a N : Nat) (M5 : mM) : Prop := (∀ j, j + 1 < N → pwq C n j < n ∧ wkq (kw C) C n (pwq C n j) ≠ 39 ∧ nt M5 (a + 5) j = wkq (kw C) C n (pwq C n j) ∧ nt M5 (a + 7) j = pwq C n j ∧ nt M5 (a + 9) j = weq C n (pwq C n j)) ∧ ((nt M5 (a + 5) (N - 1) = 0 ∧ pwq C n (N - 1) = n ∧ nt M5 (a + 7) (N - 1) = n) ∨ (nt M5 (a + 5) (N - 1) = 39 ∧ pwq C n (N - 1) < n ∧ wkq (kw C) C n (pwq C n (N - 1)) = 39 ∧ nt M5 (a + 7) (N - 1) = pwq C n (N - 1)))
end
