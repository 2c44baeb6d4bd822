/-! The class's reader of rules: the names that it knows, and operands. -/
section RRM
variable {G : mG} {d z r w T A B D N C n p O P K k a a' s L L1 V F d0 c : Nat} {M0 M M' M1 M2 : mM} {H H1 : Nat → Nat} {ns : Nat → Int} {wt : Int}
/-- the c names that are known: words, sorts, numbers, kinds -/
def NK (M : mM) (r A n V F : Nat) (ns : Nat → Int) (c : Nat) : Prop := mI M r 19 = c ∧ c ≤ 72 ∧ ∀ i, i < c → (∃ v : Nat, mI M (r + 6) i = v ∧ v < n ∧ mI M A v = 2) ∧ ((mI M (r + 7) i = 5 ∧ 0 ≤ mI M (r + 8) i ∧ (mI M r 6 = 0 → mI M (r + 8) i < V)) ∨ (mI M (r + 7) i = 4 ∧ 0 ≤ mI M (r + 8) i ∧ mI M (r + 8) i < F ∧ ns (mI M (r + 8) i).toNat = 4) ∨ (mI M (r + 7) i = 7 ∧ 0 ≤ mI M (r + 8) i ∧ (mI M r 6 = 0 → mI M (r + 8) i < F ∧ ns (mI M (r + 8) i).toNat = 7))) ∧ (mI M (r + 9) i = 0 ∨ mI M (r + 9) i = 1)
/-- all names that are known -/
def TN (M : mM) (r A n V F : Nat) (ns : Nat → Int) (c : Nat) : Prop := mI M r 19 = c ∧ c ≤ 72 ∧ ∀ i, i < c → (∃ v : Nat, mI M (r + 6) i = v ∧ v < n ∧ mI M A v = 2) ∧ ((mI M (r + 7) i = 5 ∧ 0 ≤ mI M (r + 8) i ∧ mI M (r + 8) i < V) ∨ ((mI M (r + 7) i = 4 ∨ mI M (r + 7) i = 7) ∧ 0 ≤ mI M (r + 8) i ∧ mI M (r + 8) i < F ∧ ns (mI M (r + 8) i).toNat = mI M (r + 7) i)) ∧ (mI M (r + 9) i = 0 ∨ mI M (r + 9) i = 1)
/-- where only consts may stand -/
def nsc (ns : Nat → Int) : Nat → Int := fun x => if ns x = 4 then 4 else 0
theorem TN.nk (h : TN M r A n V F ns c) : NK M r A n V F ns c := by
  refine ⟨h.1, h.2.1, fun i hi => ?_⟩
  obtain ⟨h1, h2, h3⟩ := h.2.2 i hi
  refine ⟨h1, ?_, h3⟩
  rcases h2 with ⟨u1, u2, u3⟩ | ⟨u1, u2, u3, u4⟩
  · exact Or.inl ⟨u1, u2, fun _ => u3⟩
  · rcases u1 with e | e
    · exact Or.inr (Or.inl ⟨e, u2, u3, by rw [u4]; exact e⟩)
    · exact Or.inr (Or.inr ⟨e, u2, fun _ => ⟨u3, by rw [u4]; exact e⟩⟩)
theorem TN.nkc (h : TN M r A n V F ns c) (h6 : mI M r 6 ≠ 0) : NK M r A n 0 F (nsc ns) c := by
  refine ⟨h.1, h.2.1, fun i hi => ?_⟩
  obtain ⟨h1, h2, h3⟩ := h.2.2 i hi
  refine ⟨h1, ?_, h3⟩
  rcases h2 with ⟨u1, u2, u3⟩ | ⟨u1, u2, u3, u4⟩
  · exact Or.inl ⟨u1, u2, fun q => absurd q h6⟩
  · rcases u1 with e | e
    · refine Or.inr (Or.inl ⟨e, u2, u3, ?_⟩)
      unfold nsc
      rw [if_pos (by rw [u4]; exact e)]
    · exact Or.inr (Or.inr ⟨e, u2, fun q => absurd q h6⟩)
theorem RB.word (h : RB M z r w T A B D N C n p O P K) (f : FI (rdS r p O P) M M') : mI M' A = mI M A ∧ mI M' B = mI M B ∧ mI M' D = mI M D := by
  have hs := h.2.2.2.2.2.1.2.2
  have no : ∀ x, (x = w ∨ x = T ∨ x = A ∨ x = B ∨ x = D) → ¬ rdS r p O P x := fun x hx q => by
    have q' : (r ≤ x ∧ x ≤ r + 9) ∨ x = p ∨ x = O ∨ x = P := q
    have := hs x hx
    omega
  exact ⟨f.2.2.2.2.2.2 A (no A (by omega)), f.2.2.2.2.2.2 B (no B (by omega)), f.2.2.2.2.2.2 D (no D (by omega))⟩
theorem NK.rr (nk : NK M r A n V F ns c) (h : RB M z r w T A B D N C n p O P K) (f : rrF M r p O P s M') : NK M' r A n V F ns c := by
  have hA := (h.word f.1).1
  obtain ⟨-, f2, -, f4, -⟩ := f
  unfold NK at nk ⊢
  rw [hA, f2 19 (by decide) (by decide) (by decide) (by decide) (by decide) (by decide) (by decide), f2 6 (by decide) (by decide) (by decide) (by decide) (by decide) (by decide) (by decide), f4 6 (by omega) (by omega), f4 7 (by omega) (by omega), f4 8 (by omega) (by omega), f4 9 (by omega) (by omega)]
  exact nk
theorem RG.cg (g : RG M r p O P n s V F ns d0 H L k a wt) (h2 : mI M' r 2 = a') (haa : a ≤ a') (han : a' ≤ n) (h12 : mI M' r 12 = mI M r 12) (h7 : mI M' r 7 = mI M r 7) (h14 : mI M' r 14 = mI M r 14) (h5 : mI M' r 5 = mI M r 5) (t : ∀ i, 1 ≤ i → i ≤ 5 → mI M' (r + i) = mI M (r + i)) (tp : mI M' p 2 = mI M p 2) (tO : mI M' O = mI M O) (tP : mI M' P = mI M P) : RG M' r p O P n s V F ns d0 H L k a' wt := by
  obtain ⟨⟨g1, g2, g3, g4⟩, gw, ⟨ga, gs⟩, gc, ⟨gd, gd4⟩, gr, ge, gH, gC, gL, gt⟩ := g
  have l1 : ∀ j, mI M' (r + 1) j = mI M (r + 1) j := fun j => by rw [t 1 (by omega) (by omega)]
  have l2 : ∀ j, mI M' (r + 2) j = mI M (r + 2) j := fun j => by rw [t 2 (by omega) (by omega)]
  have l3 : ∀ j, mI M' (r + 3) j = mI M (r + 3) j := fun j => by rw [t 3 (by omega) (by omega)]
  have l4 : ∀ j, mI M' (r + 4) j = mI M (r + 4) j := fun j => by rw [t 4 (by omega) (by omega)]
  have sm := fun i hi => sums_cg (M := M) (M' := M') (r := r) (k := k) (fun j _ => l1 j) (fun j _ => l4 j) i hi
  obtain ⟨s1, s2, s3, s4⟩ := sm k (Nat.le_refl _)
  refine ⟨⟨h2, by rw [h12]; exact g2, by rw [h7]; exact g3, by rw [tp]; exact g4⟩, gw, ⟨han, gs⟩, by rw [h14, s2]; exact gc, ⟨by rw [h5, s4]; exact gd, by rw [s4]; exact gd4⟩, fun i hi => by rw [(sm (i + 1) (by omega)).2.2.2, l1]; exact gr i hi, fun i hi => (ge i hi).cg (fun j _ => l1 j) (l2 i) (l3 i) (fun j _ => l4 j) (Nat.le_refl _) (fun j _ => by rw [tO]) (fun _ _ => rfl), by rw [s1]; exact gH, ?_, by rw [s3]; omega, fun j => by rw [t 5 (by omega) (by omega)]; exact gt j⟩
  intro pc h0 h1
  rw [tO, tP]
  obtain ⟨a1, a2, a3⟩ := gC pc h0 h1
  exact ⟨a1, fun q => (a2 q).imp (fun u => pdg_cg u (Nat.le_refl _) (fun j _ => l1 j) (fun j _ => l3 j)) (fun u => u), a3⟩
theorem s_RR_find {v : Nat} (h : RB M z r w T A B D N C n p O P K) (nk : NK M r A n V F ns c) (hv : v < n) (h2 : mI M A v = 2) : Ci G y_RR_find (d + 1) [vr r, vi v] M (fun x M' => M' = M ∧ (x = -1 ∨ ∃ i : Nat, x = i ∧ i < c)) := by
  obtain ⟨-, ⟨k0, ⟨-, -, -, -, -, q15, -⟩, ⟨-, -, -, -, -, kk6, -⟩, ⟨-, -, -, -, -, nn6, -⟩⟩, ⟨r0, -⟩, hW, -⟩ := id h
  obtain ⟨hWA, e2, hnN, hw, hA, hB⟩ := id hW
  obtain ⟨w1, ⟨p0, p3, p4, p5⟩, -, ⟨k3, k4, k5⟩, ⟨c3, c4, c5⟩, w6, w7, w8, -⟩ := id hWA
  obtain ⟨n1, n2, n3⟩ := nk
  obtain ⟨-, ⟨sv0, -⟩, am, -⟩ := hw v hv
  have am2 := am h2
  have dv := (h.1 D v).1
  refine k_RR_find h.1 (i32s (by omega) (by omega)) ?_
  rw [r0, p5, c5, Int.toNat_natCast]
  refine ⟨k0, w1, k5, by omega, ?_⟩
  suffices HH : ∀ (t i : Nat), c ≤ i + t → i ≤ c → h_RR_find_12 G d r v (mI M D v) i M (fun x M' => M' = M ∧ (x = -1 ∨ ∃ i : Nat, x = i ∧ i < c)) from HH c 0 (by omega) (by omega)
  intro t
  induction t with
  | zero =>
    intro i hi hc
    exact k_RR_find_12 h.1 (i32s (by omega) (by omega)) dv (i32s (by omega) (by omega)) ⟨k0, fun _ => ⟨rfl, Or.inl rfl⟩, fun y => absurd y (by omega)⟩
  | succ t ih =>
    intro i hi hc
    refine k_RR_find_12 h.1 (i32s (by omega) (by omega)) dv (i32s (by omega) (by omega)) ⟨k0, fun _ => ⟨rfl, Or.inl rfl⟩, fun y => ?_⟩
    have hic : i < c := by omega
    obtain ⟨⟨u, eu, un, u2⟩, -⟩ := n3 i hic
    obtain ⟨-, ⟨su0, -⟩, amu, -⟩ := hw u un
    have amu2 := amu u2
    rw [q15, nn6, r0, p5, c5, p4, c4, Int.toNat_natCast, eu, Int.toNat_natCast, Int.toNat_natCast]
    refine ⟨kk6, by omega, w1, k5, by omega, fun e => ⟨k4, by omega, by omega, ?_⟩, fun _ => ih (i + 1) (by omega) (by omega)⟩
    obtain ⟨su, esu⟩ : ∃ x : Nat, mI M B u = x := ⟨(mI M B u).toNat, by omega⟩
    obtain ⟨sv, esv⟩ : ∃ x : Nat, mI M B v = x := ⟨(mI M B v).toNat, by omega⟩
    obtain ⟨sz, esz⟩ : ∃ x : Nat, mI M D v = x := ⟨(mI M D v).toNat, by omega⟩
    rw [esu, esv, esz]
    refine (s_Wo_same h.1 hWA (by omega) (by omega)).mono (fun x M' q => ?_)
    obtain ⟨e', hx⟩ := q
    rw [e']
    rw [← esz]
    exact ⟨i32s (by omega) (by omega), h.1, fun _ => ih (i + 1) (by omega) (by omega), fun _ => ⟨rfl, Or.inr ⟨i, rfl, hic⟩⟩⟩
theorem v_rt {y : Int} (g : RG M r p O P n s V F ns d0 H L k a 1) (f : rrF M0 r p O P s M) (q : y = 0 ∧ RB M' z r w T A B D N C n p O P K ∧ FI (rdS r p O P) M M' ∧ (∀ i, i ≠ 2 → i ≠ 7 → i ≠ 14 → mI M' r i = mI M r i) ∧ (∀ i, 6 ≤ i → i ≤ 9 → mI M' (r + i) = mI M (r + i)) ∧ (∀ i, i ≠ 2 → mI M' p i = mI M p i) ∧ (∀ i, i ≠ L → mI M' O i = mI M O i ∧ mI M' P i = mI M P i) ∧ ∃ H', RG M' r p O P n s V F ns d0 H' (L + 1) k (a + 1) 0 ∧ ∀ i, i ≤ L → H' i = H i) : i32 y ∧ mOk M' ∧ rtQ M0 z r w T A B D N C n p O P K s V F ns d0 a y M' := by
  obtain ⟨e, q1, q2, q3, q4, q5, q6, H', g', -⟩ := q
  have gs := g.2.2.1.2
  refine ⟨by rw [e]; exact i32s (by omega) (by omega), q1.1, q1, f.trans ⟨q2, fun i i2 _ _ _ i7 _ i14 => q3 i i2 i7 i14, fun _ => q3 3 (by decide) (by decide) (by decide), q4, q5, fun i hi => q6 i (by omega)⟩, Or.inl e, H', L + 1, k, 0, a + 1, g', by omega, fun u => absurd u (by omega)⟩
theorem l_rt {x : Int} (haa : a ≤ a') (g : RG M r p O P n s V F ns d0 H L k a' 1) (f : rrF M0 r p O P s M) (q : lvQ M z r w T A B D N C n p O P K s V F ns d0 H L k a' x M') : i32 x ∧ mOk M' ∧ rtQ M0 z r w T A B D N C n p O P K s V F ns d0 a x M' := by
  obtain ⟨q1, q2, q3, q4, ⟨q5, q6, q7⟩, q8⟩ := q
  refine ⟨?_, q1.1, q1, f.trans ⟨q2, fun i i2 _ _ i5 i7 i12 _ => q3 i i2 i5 i7 i12, fun _ => q3 3 (by decide) (by decide) (by decide) (by decide), fun i i6 i9 => q4 i (by omega) i9, fun i _ => by rw [q5], fun i _ => ⟨by rw [q6], by rw [q7]⟩⟩, ?_⟩
  · rcases q8 with ⟨e, -⟩ | ⟨e, -⟩ <;> rw [e] <;> exact i32s (by omega) (by omega)
  · rcases q8 with ⟨e, e2⟩ | ⟨e, g'⟩
    · rw [e2]; exact ⟨Or.inr (Or.inr e), H, L, k, 1, a', g, by omega, fun u => absurd u (by omega)⟩
    · exact ⟨Or.inl e, H, L, k + 1, 1, a' + 1, g', by omega, fun u => absurd u (by omega)⟩
end RRM
