section
section
variable {G : mG} {d z q w T A B D N C n p O P K Ab Be Cm V F c s L L' cnt Bn a d0 V1 F1 : Nat} {M0 M M' M1 M2 : mM} {ns ns' ns1 : Nat → Int} {sf ef sf' ef' : Nat → Nat} {H : Nat → Nat} {S R : Nat → Prop} {W pl nq : Nat → Int} {sm : Nat → Nat → Prop} {nms : List nm9} {u : Ru} {ft : Int × Int} {zz zr : List Int}
theorem x_tx_rule {l1 l2 : Int} (i1 : i32 l1) (i2 : i32 l2) (h : TX M z q w T A B D N C n p O P K Ab Be Cm V F ns sf ef c cnt L) (ha : mI M (q + 1) 2 = a) (han : a ≤ n) (hs : mI M p 2 = s) (hLs : L ≤ s) (hsa : s ≤ a) (hd : mI M (q + 1) 5 = d0) (hd4 : d0 ≤ 40) (nk : NK M (q + 1) A n V1 F1 ns1 c) (uq : UQ u M (q + 1) T A B D n c) (hI : ruI u = a) (hF : FT M (q + 1) (uF u)) (hD : mI M (q + 1) 5 = slv (uZ u)) (hask : Hid ((l2 = 0 → uQ u = 5) ∧ (l2 ≠ 0 → uQ u = 6))) (hz : Hid (∀ j, lwx (ruW u j) = 3 → Rf (ruW u) (uZ u) j j)) (hR : Rc (ruW u) (uS u) (uK u) (gyW (uZ u) (uQ u) []) a) : Ci G y_RR_readRule (d + 4) [vr (q + 1), vi l1, vi l2] M (fun x M' => i32 x ∧ mOk M' ∧ ruQ M z q w T A B D N C n p O P K Ab Be Cm V F ns sf ef c cnt L s V1 F1 ns1 a x M' ∧ rleV u (q + 1) p O P s l1 x M') := by
  have ap := h.1.apart
  have qp := h.1.2.2.2.2.2.1.2.1
  refine (x_RR_readRule i1 i2 h.1.1 ha han hs hsa hd hd4 h.2.1.2.2.2 nk uq hI hF hD hask hz hR).mono (fun x M' k => ?_)
  obtain ⟨⟨k1, k2, k3, k4⟩, kv⟩ := k
  have ff := rr_tx h.1 k2
  have hx : x = 0 ∨ x = 1 := by
    rcases k4 with ⟨e, -⟩ | ⟨e, -⟩
    · exact Or.inl e
    · exact Or.inr e
  have nb : ∀ b, b = q ∨ b = q + 21 ∨ b = q + 22 → mI M' b = mI M b := fun b hb => k2.1.2.2.2.2.2.2 b (fun y => by
    exact u7a qp ap.2.1 ap.2.2.1 hb y)
  have ix : i32 x := by
    clear k4
    exact i32s (by omega) (by omega)
  refine ⟨ix, k1.1, ⟨h.tx k1.1 (ff.less hLs) k3, ff, ⟨k2.2.1 6 (by decide) (by decide) (by decide) (by decide) (by decide) (by decide) (by decide), nb q (Or.inl rfl), nb _ (Or.inr (Or.inl rfl)), nb _ (Or.inr (Or.inr rfl))⟩, ?_⟩, kv⟩
  rcases k4 with ⟨e, a', L1, e1, -, e3, -⟩ | ⟨e, H', L1, a', g, haa⟩
  · exact Or.inl ⟨e, a', e1, e3⟩
  · obtain ⟨⟨g1, g2, g3, g4⟩, -, ⟨g5, g6⟩, -, ⟨g8, -⟩, -, -, ⟨gH, gHs⟩, gC, gL, -⟩ := g
    have b0 : bs M' (q + 1) 0 = 0 := rfl
    have s0 : sdp M' (q + 1) 0 = 0 := rfl
    have e0 : se M' (q + 1) 0 = 0 := rfl
    have u0 : uw 0 = 1 := rfl
    have hs0 := (gC s (Nat.le_refl _) (by omega)).2.2
    refine Or.inr ⟨e, L1, H', a', fun pc h0 h1 => ?_, by omega, by omega, by omega, g4, g1, haa, g5, by omega, by rw [g8, s0, hd]; omega⟩
    obtain ⟨c1, c2, c3⟩ := gC pc h0 h1
    refine ⟨c1, fun y => Or.inr ?_, c3⟩
    rcases c2 y with ⟨i, hi, -⟩ | u
    · exact absurd hi (by omega)
    · exact u
/-- a rule of an item, exactly: read from word a on, the pile zz below it, the fault ft before it -/
def irV (W pl E : Nat → Int) (Cf : Nat → Int × Int) (q p O P s a : Nat) (ft : Int × Int) (zz : List Int) (l1 x : Int) (M' : mM) : Prop := ∃ a' : Nat, mI M' (q + 1) 2 = a' ∧ ((x = 0 ∧ Rf W [50] 0 a') ∨ (x = 1 ∧ ∃ L' : Nat, mI M' p 2 = ((L' + 1 : Nat) : Int) ∧ mI M' O L' = 0 ∧ Eo W 6 a a' ∧ mI M' (q + 6) 0 = kdq W E 0 a a' ∧ FT M' (q + 1) (fst9 (fst9 ft (fl W E pl 0 a a')) (kft (l1 = 0 ∨ kdq W E 0 a a' = (if l1 = 2 then 1 else 0)) (pl a))) ∧ Cd W Cf pl (mI M' O) (mI M' P) 0 0 0 a a' s L' ∧ Rc W [50] 0 zz a'))
/-- kinds and orders of words, out of the names -/
def ECq (M : mM) (r p n : Nat) (W nq : Nat → Int) (sm : Nat → Nat → Prop) (nms : List nm9) (c : Nat) (co : Int) (E : Nat → Int) (Cf : Nat → Int × Int) : Prop := (∀ v, n ≤ v → Cf v = (3, 0)) ∧ (CT M r p nms → nms.length = c → (E = E9 sm nms (if co = 0 then 0 else 1) ∧ ∀ v, v < n → (W v = 2 → Cf v = (3, nq v)) ∧ (W v = 12 → Cf v = (3, 1)) ∧ (W v = 13 → Cf v = (3, 0)) ∧ (W v = 1 → E v ≠ -1 → ∃ (i : Nat) (e : nm9), nms[i]? = some e ∧ fnd9 sm nms v = some e ∧ (co = 0 ∨ e.2.1 = 1) ∧ Cf v = (mI M (r + 7) i, mI M (r + 8) i) ∧ ∀ (j : Nat) (e' : nm9), j < i → nms[j]? = some e' → ¬ sm e'.1 v)))
end
end
