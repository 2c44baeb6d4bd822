/-! The class's top: a table grows and is written; within's steps. -/
section NCR
variable {G : mG} {d t g s b i j a Ra n cn cc bc z w R' k' : Nat} {v R k Rn kn : Nat → Nat} {M M0 M' M1 : mM} {L L' L1 : List Nat} {W : Nat → Nat} {T C S Z : Nat → Prop} {r : Prop}
/-- a table that isn't known grows, then its rows are written -/
theorem Nms.gx (h : Nms L W s g b cn cc bc v R k M) (hc : Cnu Z L s v R k M) (i4 : i < 4) (fl : mI M (v i) 1 = 0) (gw : Gw L W (v i) M L' M1) (te : Te L' W (s + 1) g (v i) R' k' M1) (k5 : k' ≤ 512) (gr : (M1 = M ∧ L' = L ∧ R' = R i ∧ k' = k i) ∨ rvG L M (R i) (k i) L' M1 R' k') (p1 : ∀ j, j < k i → mR M1 R' j = mR M (R i) j) (p2 : ∀ j, k i ≤ j → j < k' → mR M1 R' j = mZ M + 1 + 5 * (j - k i)) (c1 : cn ≤ k') (q : NX L' W T C r (s + 1) M1 M') (hT : ∀ x, T x → Tso s M1 R' cn x) (hC : ∀ x, C x → Cso s M1 R' cn x) (sk : SK L' M' (s + 1)) : Nms L' W s g b cn cc bc v (up1 R i R') (up1 k i k') M' ∧ Sp Z s v M M' L' (up1 R i R') (up1 k i k') ∧ Rq L k M L' (up1 k i k') M' ∧ (∀ j, j ≤ 9 → mI M' (g + j) = mI M (g + j)) ∧ (∀ j, j < 4 → mI M' (v j) = mI M (v j)) ∧ (¬ C (s + 30) → mI M' (s + 30) = mI M (s + 30)) := by
  obtain ⟨N2, S2⟩ := h.gw i4 gw te k5 gr p1 p2 fl
  have P2 : Sp Z s v M M1 L' (up1 R i R') (up1 k i k') := gw.fc i4 hc h.2.1 te gr p1 p2
  have Q2 := rv_rq (R := R) i4 gw gr
  have FB := S2.2.1.1
  have q' : NX L' W (Tso s M1 R' cn) (Cso s M1 R' cn) True (s + 1) M1 M' := q.mono FB hT (S2.tl c1) hC (S2.cl c1) (fun _ => trivial)
  obtain ⟨S4, G4, -⟩ := S2.nx c1 q' sk
  have hT' : ∀ x, Tso s M1 R' cn x → (s ≤ x ∧ x ≤ s + 134) ∨ Trw M1 (up1 R i R' i) cn x := fun x u => by rw [up1_s]; exact tso_lo u
  have hC' : ∀ x, Cso s M1 R' cn x → (s ≤ x ∧ x ≤ s + 134) ∨ Irw M1 (up1 R i R' i) cn x := fun x u => by rw [up1_s]; exact cso_lo u
  have ck : cn ≤ up1 k i k' i := by rw [up1_s]; exact c1
  have V4 := (N2.nx i4 q' ck hT' hC').2.1
  have V2 : ∀ j, j < 4 → mI M1 (v j) = mI M (v j) := fun j hj => (gw.2.2.2.2.1.2 _ (h.2.1.1 j hj).1.2.2.2.2.1.1.1).2.2.2.2 (fun u => u)
  have ei : ∀ x, x < mZ M → mI M1 x = mI M x := fun x hx => (gw.2.2.2.2.1.2 x hx).2.2.2.2 (fun u => u)
  refine ⟨N2.nx2 i4 q' ck hT' hC' S4.sb (fun _ kn => absurd (by rw [(V4 i i4).2, V2 i i4]; exact fl) kn), P2.trans (q'.fc FB P2.2 N2.2.1 (fun x u => ?_)), Q2.trans (q'.rq FB), fun j hj => by rw [G4 j hj, ei _ (h.1.2.2.2 j hj).1], fun j hj => by rw [(V4 j hj).2, V2 j hj], fun nc => ?_⟩
  · rcases hC' x u with w | ⟨l, hl, w⟩
    · exact P2.2.1 x w.1 w.2
    · rw [w]; exact (P2.2.2.2.1 i i4).2.2 l (by omega)
  · have o30 := h.1.2.2.1 (s + 30) st30
    rw [(q.oth (S2.2.2.1 (s + 30) st30) (by omega)).2.2.2 nc, ei _ o30.1]
/-- withins and earlier change places -/
def sg (i : Nat) : Nat := if i = 1 then 2 else if i = 2 then 1 else i
theorem sg_lt (h : i < 4) : sg i < 4 := by
  unfold sg
  split
  · decide
  · split <;> omega
theorem sg_inj (h : sg i = sg j) : i = j := by
  unfold sg at h
  split at h <;> split at h <;> (try split at h) <;> (try split at h) <;> omega
theorem Tb0.sw (h : Tb0 L M s b v R k) : Tb0 L M s b (fun i => v (sg i)) (fun i => R (sg i)) (fun i => k (sg i)) := ⟨fun i hi => h.1 (sg i) (sg_lt hi), fun i j hi hj ij => h.2 (sg i) (sg j) (sg_lt hi) (sg_lt hj) (fun e => ij (sg_inj e))⟩
theorem Nms.sw (h : Nms L W s g b cn cc bc v R k M) (f2 : mI M (v 2) 1 = 0) : Nms L W s g b cn cc bc (fun i => v (sg i)) (fun i => R (sg i)) (fun i => k (sg i)) M := by
  refine ⟨h.1, h.2.1.sw, h.2.2.1, fun i hi i2 => ?_⟩
  have : i = 0 ∨ i = 1 ∨ i = 3 := by omega
  rcases this with e | e | e <;> subst e
  · exact h.2.2.2 0 (by decide) (by decide)
  · exact fun kn => absurd f2 kn
  · exact h.2.2.2 3 (by decide) (by decide)
theorem Cnu.sw (h : Cnu Z L s v R k M) : Cnu Z L s (fun i => v (sg i)) (fun i => R (sg i)) (fun i => k (sg i)) M := ⟨h.1, h.2.1, fun i hi => h.2.2.1 (sg i) (sg_lt hi), h.2.2.2⟩
theorem Pn.sw : Pn L (fun i => k (sg i)) M = Pn L k M ∧ Qn L (fun i => k (sg i)) M = Qn L k M ∧ k (sg 0) + k (sg 1) + k (sg 2) + k (sg 3) = k 0 + k 1 + k 2 + k 3 := by
  have e0 : sg 0 = 0 := rfl
  have e1 : sg 1 = 2 := rfl
  have e2 : sg 2 = 1 := rfl
  have e3 : sg 3 = 3 := rfl
  have e4 : sg 4 = 4 := rfl
  unfold Pn Qn
  simp only [e0, e1, e2, e3, e4]
  exact ⟨by omega, by omega, by omega⟩
/-- a move from table 2 to table 1 -/
def mvR (Z : Nat → Prop) (L : List Nat) (W : Nat → Nat) (s g b cn cc bc : Nat) (v k : Nat → Nat) (n9 : Nat → Rat) (M : mM) (x : Int) (M' : mM) : Prop := (x = 0 ∨ x = 1) ∧ ∃ L' Rn kn, Nms L' W s g b cn cc bc v Rn kn M' ∧ Sp Z s v M M' L' Rn kn ∧ Rq L k M L' kn M' ∧ (∀ j, j ≤ 9 → mI M' (g + j) = mI M (g + j)) ∧ (∀ j, j < 4 → mI M' (v j) = mI M (v j)) ∧ mI M' (s + 30) = mI M (s + 30) ∧ (x ≠ 0 → cn ≤ kn 1 ∧ Rok M' (Rn 1) cn ∧ ∀ j, j < cn → rwv M' (Rn 1) j = n9 j ∧ ft9 (n9 j)) ∧ (x = 0 → ∃ j, j < cn ∧ ¬ ft9 (n9 j))
theorem n_move {n9 : Nat → Rat} (hn : nxH M g (R 2) cn n9) (h : Nms L W s g b cn cc bc v R k M) (hc : Cnu Z L s v R k M) (f1 : mI M (v 1) 1 = 0) (ck : cn ≤ k 2) (ro : Rok M (R 2) cn) (hWr : ∀ x, b ≤ x → 17 ≤ W x ∧ W x ≤ 20000) (hWs : ∀ x, s ≤ x → x ≤ s + 134 → 300 ≤ W x) : Ci G y_Sc_move (d + 8) [vr (s + 1), vr g, vr (v 2), vr (v 1)] M (mvR Z L W s g b cn cc bc v k n9 M) := by
  have b1 := h.2.2.1.1
  have t1 := h.2.1.1 1 (by decide)
  have t2 := h.2.1.1 2 (by decide)
  have bz := h.2.2.1.2
  refine (f_move (d := d) (B := 300) hn (h.1.sva b1 t1).te (h.1.sva b1 t2).te (h.2.1.2 2 1 (by decide) (by decide) (by decide)).2.1 t1.2.2.2.1 t2.2.2.2.1 ck h.1.1.2.2.2.2 ro (h.2.1.2 1 2 (by decide) (by decide) (by decide)).1 (fun x u => w_tat hWs x (Or.inl u)) (by decide) (by decide) (fun x hx => by have := hWr x (by omega); omega) (fun l hl => ?_)).mono (fun x M' q => ?_)
  · have := t1.2.1 l hl
    have a1 := hWr (mR M (R 1) l + 1) (by omega)
    have a3 := hWr (mR M (R 1) l + 3) (by omega)
    omega
  obtain ⟨L', R', k', M1, gw, te, gr, ⟨c1, c2, k5⟩, p1, p2, ⟨x01, l, lc, mv, hl, hX, hf⟩, -⟩ := q
  have FB := te.1.2.1
  have q := mv.1.nx FB
  obtain ⟨N, P, Q, G', V, e30⟩ := h.gx (i := 1) hc (by decide) f1 gw te k5 gr p1 (fun j a b => (p2 j a b).1) c1 q (fun x u => u.elim Or.inl (fun u => Or.inr (Or.inr (Or.inr u)))) (fun x u => u.elim Or.inl (fun u => Or.inr (Or.inr (Or.inr (Or.inr (Or.inr u)))))) mv.2.1.1.2.2
  refine ⟨x01, L', up1 R 1 R', up1 k 1 k', N, P, Q, G', V, e30 (fun u => ?_), fun u => ⟨c1, ?_, fun j hj => ?_⟩, fun u => ⟨l, hf u⟩⟩
  · rcases u with u | ⟨l, hl, u⟩
    · unfold Ipk at u; omega
    · have tb := (N.2.1.1 1 (by decide)).2.1 l (by rw [up1_s]; omega)
      have e : mR M' R' = mR M1 R' := mv.2.2.2.1.1
      rw [up1_s, e] at tb
      omega
  · rw [up1_s, ← hl u]
    exact mv.2.2.2.2.2.2
  · have el := hl u
    have e := hX.2.2 j (by omega)
    rw [up1_s, e]
    refine ⟨rfl, ?_⟩
    rw [← e]
    exact mv.2.2.2.2.2.2.fit (by omega) (mv.2.1.1.2.1.nn0 (mv.2.1.2.2.1.2.2.2.2.2 j (by omega)).2.1)
/-- the table of withins begins -/
theorem n_begin {n9 : Nat → Rat} (hn : ∀ j, j < cn → n9 j = if mI M (g + 2) j = 3 then 1 else 0) (h : Nms L W s g b cn cc bc v R k M) (hc : Cnu Z L s v R k M) (f1 : mI M (v 1) 1 = 0) (hWr : ∀ x, b ≤ x → 17 ≤ W x ∧ W x ≤ 20000) : Cv G y_Fs_begin (d + 4) [vr (v 1), vr g] M (mvR Z L W s g b cn cc bc v k n9 M 1) := by
  have b1 := h.2.2.1.1
  have t1 := h.2.1.1 1 (by decide)
  have bz := h.2.2.1.2
  have c5 := h.1.1.2.2.2.2.1.1
  refine (f_begin (d := d) (h.1.sva b1 t1).te t1.2.2.2.1 c5 h.cnt.1 (fun x hx => by have := hWr x (by omega); omega)).mono (fun M' q => ?_)
  obtain ⟨L', R', k', M1, gw, te, ⟨c1, c2⟩, gr, p1, p2, nb, bg, bw⟩ := q
  have k5 : k' ≤ 512 := by
    have := t1.2.2.2.1
    rcases gr with ⟨-, -, -, e⟩ | ⟨-, e, -⟩ <;> omega
  have FB := te.1.2.1
  obtain ⟨N, P, Q, G', V, e30⟩ := h.gx (i := 1) hc (by decide) f1 gw te k5 gr p1 (fun j a b => (p2 j a b).1) c1 (nb.nx FB) (fun x u => Or.inr (Or.inr (Or.inr u))) (fun x u => Or.inr (Or.inr (Or.inr (Or.inr (Or.inr u))))) (nb.sk FB te.1.2.2)
  have t1' := N.2.1.1 1 (by decide)
  rw [up1_s, up1_s] at t1'
  have rR := (nb.nx FB).rwt FB te.2.2.1 (by have := t1'.2.2.2.2; omega) (by have := t1'.2.2.2.2; omega)
  refine ⟨Or.inr rfl, L', up1 R 1 R', up1 k 1 k', N, P, Q, G', V, e30 (fun ⟨l, hl, u⟩ => ?_), fun _ => ⟨c1, ?_, fun j hj => ?_⟩, fun u => absurd u (by decide)⟩
  · have tb := t1'.2.1 l (by omega)
    rw [rR.2] at tb
    omega
  · rw [up1_s]
    have p1' : (1 : Int) < 2 ^ (30 * 16) := by decide +kernel
    refine ⟨fun l hl => ?_, fun l hl => ?_, fun l hl => (bg l hl).2.2⟩
    · obtain ⟨g1, g3, -⟩ := bg l hl
      rw [g3]
      exact ⟨by decide, p1', by rcases g1 with e | e <;> rw [e] <;> omega⟩
    · obtain ⟨g1, g3, -⟩ := bg l hl
      rw [g3]
      exact ⟨by rcases g1 with e | e <;> rw [e] <;> decide, by decide⟩
  · rw [up1_s, hn j hj]
    refine ⟨?_, ft_01 (Classical.em _)⟩
    have e1 := bw j hj
    rw [G' 2 (by decide)] at e1
    have z0 : ((0 : Int) : Rat) = 0 := rfl
    have z1 : ((1 : Int) : Rat) = 1 := rfl
    unfold rwv
    rw [e1, (bg j hj).2.1]
    split
    · rw [z1]; grind
    · rw [z0, z1]; grind
end NCR
