section
/-! The class's top: a table grows and is written; within's steps. -/
section NCR
variable {G : mG} {d t g s b i j a Ra n cn cc bc z w R' k' : Nat} {v R k Rn kn : Nat → Nat} {M M0 M' M1 : mM} {L L' L1 : List Nat} {W : Nat → Nat} {T C S Z : Nat → Prop} {r : Prop}
/-- a table that isn't known grows, then its rows are written -/
theorem Nms.gx (h : Nms L W s g b cn cc bc v R k M) (hc : Cnu Z L s v R k M) (i4 : i < 4) (fl : mI M (v i) 1 = 0) (gw : Gw L W (v i) M L' M1) (te : Te L' W (s + 1) g (v i) R' k' M1) (k5 : k' ≤ 512) (gr : (M1 = M ∧ L' = L ∧ R' = R i ∧ k' = k i) ∨ rvG L M (R i) (k i) L' M1 R' k') (p1 : ∀ j, j < k i → mR M1 R' j = mR M (R i) j) (p2 : ∀ j, k i ≤ j → j < k' → mR M1 R' j = mZ M + 1 + 5 * (j - k i)) (c1 : cn ≤ k') (q : NX L' W T C r (s + 1) M1 M') (hT : ∀ x, T x → Tso s M1 R' cn x) (hC : ∀ x, C x → Cso s M1 R' cn x) (sk : SK L' M' (s + 1)) : Nms L' W s g b cn cc bc v (up1 R i R') (up1 k i k') M' ∧ Sp Z s v M M' L' (up1 R i R') (up1 k i k') ∧ Rq L k M L' (up1 k i k') M' ∧ (∀ j, j ≤ 9 → mI M' (g + j) = mI M (g + j)) ∧ (∀ j, j < 4 → mI M' (v j) = mI M (v j)) ∧ (¬ C (s + 30) → mI M' (s + 30) = mI M (s + 30)) := by
  obtain ⟨N2, S2⟩ := h.gw i4 gw te k5 gr p1 p2 fl
  have P2 : Sp Z s v M M1 L' (up1 R i R') (up1 k i k') := gw.fc i4 hc h.2.1 te gr p1 p2
  have Q2 := rv_rq (R := R) i4 gw gr
  have FB := S2.2.1.1
  have q' : NX L' W (Tso s M1 R' cn) (Cso s M1 R' cn) True (s + 1) M1 M' := q.mono FB hT (S2.tl c1) hC (S2.cl c1) (fun _ => trivial)
  obtain ⟨S4, G4, -⟩ := S2.nx c1 q' sk
  have hT' : ∀ x, Tso s M1 R' cn x → (s ≤ x ∧ x ≤ s + 134) ∨ Trw M1 (up1 R i R' i) cn x := fun x u => by rw [up1_s]; exact tso_lo u
  have hC' : ∀ x, Cso s M1 R' cn x → (s ≤ x ∧ x ≤ s + 134) ∨ Irw M1 (up1 R i R' i) cn x := fun x u => by rw [up1_s]; exact cso_lo u
  have ck : cn ≤ up1 k i k' i := by rw [up1_s]; exact c1
  have V4 := (N2.nx i4 q' ck hT' hC').2.1
  have V2 : ∀ j, j < 4 → mI M1 (v j) = mI M (v j) := fun j hj => (gw.2.2.2.2.1.2 _ (h.2.1.1 j hj).1.2.2.2.2.1.1.1).2.2.2.2 (fun u => u)
  have ei : ∀ x, x < mZ M → mI M1 x = mI M x := fun x hx => (gw.2.2.2.2.1.2 x hx).2.2.2.2 (fun u => u)
  refine ⟨N2.nx2 i4 q' ck hT' hC' S4.sb (fun _ kn => absurd (by rw [(V4 i i4).2, V2 i i4]; exact fl) kn), P2.trans (q'.fc FB P2.2 N2.2.1 (fun x u => ?_)), Q2.trans (q'.rq FB), fun j hj => by rw [G4 j hj, ei _ (h.1.2.2.2 j hj).1], fun j hj => by rw [(V4 j hj).2, V2 j hj], fun nc => ?_⟩
  · rcases hC' x u with w | ⟨l, hl, w⟩
    · exact P2.2.1 x w.1 w.2
    · rw [w]; exact (P2.2.2.2.1 i i4).2.2 l (by omega)
  · have o30 := h.1.2.2.1 (s + 30) st30
    rw [(q.oth (S2.2.2.1 (s + 30) st30) (by omega)).2.2.2 nc, ei _ o30.1]
/-- withins and earlier change places -/
def sg (i : Nat) : Nat := if i = 1 then 2 else if i = 2 then 1 else i
theorem sg_lt (h : i < 4) : sg i < 4 := by
  unfold sg
  split
  · decide
  · split <;> omega
theorem sg_inj (h : sg i = sg j) : i = j := by
  unfold sg at h
  split at h <;> split at h <;> (try split at h) <;> (try split at h) <;> omega
theorem Tb0.sw (h : Tb0 L M s b v R k) : Tb0 L M s b (fun i => v (sg i)) (fun i => R (sg i)) (fun i => k (sg i)) := ⟨fun i hi => h.1 (sg i) (sg_lt hi), fun i j hi hj ij => h.2 (sg i) (sg j) (sg_lt hi) (sg_lt hj) (fun e => ij (sg_inj e))⟩
theorem Nms.sw (h : Nms L W s g b cn cc bc v R k M) (f2 : mI M (v 2) 1 = 0) : Nms L W s g b cn cc bc (fun i => v (sg i)) (fun i => R (sg i)) (fun i => k (sg i)) M := by
  refine ⟨h.1, h.2.1.sw, h.2.2.1, fun i hi i2 => ?_⟩
  have : i = 0 ∨ i = 1 ∨ i = 3 := by omega
  rcases this with e | e | e <;> subst e
  · exact h.2.2.2 0 (by decide) (by decide)
  · exact fun kn => absurd f2 kn
  · exact h.2.2.2 3 (by decide) (by decide)
theorem Cnu.sw (h : Cnu Z L s v R k M) : Cnu Z L s (fun i => v (sg i)) (fun i => R (sg i)) (fun i => k (sg i)) M := ⟨h.1, h.2.1, fun i hi => h.2.2.1 (sg i) (sg_lt hi), h.2.2.2⟩
theorem Pn.sw : Pn L (fun i => k (sg i)) M = Pn L k M ∧ Qn L (fun i => k (sg i)) M = Qn L k M ∧ k (sg 0) + k (sg 1) + k (sg 2) + k (sg 3) = k 0 + k 1 + k 2 + k 3 := by
  have e0 : sg 0 = 0 := rfl
  have e1 : sg 1 = 2 := rfl
  have e2 : sg 2 = 1 := rfl
  have e3 : sg 3 = 3 := rfl
  have e4 : sg 4 = 4 := rfl
  unfold Pn Qn
  simp only [e0, e1, e2, e3, e4]
  exact ⟨by omega, by omega, by omega⟩
/-- a move from table 2 to table 1 -/
def mvR (Z : Nat → Prop) (L : List Nat) (W : Nat → Nat) (s g b cn cc bc : Nat) (v k : Nat → Nat) (n9 : Nat → Rat) (M : mM) (x : Int) (M' : mM) : Prop := (x = 0 ∨ x = 1) ∧ ∃ L' Rn kn, Nms L' W s g b cn cc bc v Rn kn M' ∧ Sp Z s v M M' L' Rn kn ∧ Rq L k M L' kn M' ∧ (∀ j, j ≤ 9 → mI M' (g + j) = mI M (g + j)) ∧ (∀ j, j < 4 → mI M' (v j) = mI M (v j)) ∧ mI M' (s + 30) = mI M (s + 30) ∧ (x ≠ 0 → cn ≤ kn 1 ∧ Rok M' (Rn 1) cn ∧ ∀ j, j < cn → rwv M' (Rn 1) j = n9 j ∧ ft9 (n9 j)) ∧ (x = 0 → ∃ j, j < cn ∧ ¬ ft9 (n9 j))
theorem n_move {n9 : Nat → Rat} (hn : nxH M g (R 2) cn n9) (h : Nms L W s g b cn cc bc v R k M) (hc : Cnu Z L s v R k M) (f1 : mI M (v 1) 1 = 0) (ck : cn ≤ k 2) (ro : Rok M (R 2) cn) (hWr : ∀ x, b ≤ x → 17 ≤ W x ∧ W x ≤ 20000) (hWs : ∀ x, s ≤ x → x ≤ s + 134 → 300 ≤ W x) : Ci G y_Sc_move (d + 8) [vr (s + 1), vr g, vr (v 2), vr (v 1)] M (mvR Z L W s g b cn cc bc v k n9 M) := by
  have b1 := h.2.2.1.1
  have t1 := h.2.1.1 1 (by decide)
  have t2 := h.2.1.1 2 (by decide)
  have bz := h.2.2.1.2
  refine (f_move (d := d) (B := 300) hn (h.1.sva b1 t1).te (h.1.sva b1 t2).te (h.2.1.2 2 1 (by decide) (by decide) (by decide)).2.1 t1.2.2.2.1 t2.2.2.2.1 ck h.1.1.2.2.2.2 ro (h.2.1.2 1 2 (by decide) (by decide) (by decide)).1 (fun x u => w_tat hWs x (Or.inl u)) (by decide) (by decide) (fun x hx => by have := hWr x (by omega); omega) (fun l hl => ?_)).mono (fun x M' q => ?_)
  · have := t1.2.1 l hl
    have a1 := hWr (mR M (R 1) l + 1) (by omega)
    have a3 := hWr (mR M (R 1) l + 3) (by omega)
    omega
  obtain ⟨L', R', k', M1, gw, te, gr, ⟨c1, c2, k5⟩, p1, p2, ⟨x01, l, lc, mv, hl, hX, hf⟩, -⟩ := q
  have FB := te.1.2.1
  have q := mv.1.nx FB
  obtain ⟨N, P, Q, G', V, e30⟩ := h.gx (i := 1) hc (by decide) f1 gw te k5 gr p1 (fun j a b => (p2 j a b).1) c1 q (fun x u => u.elim Or.inl (fun u => Or.inr (Or.inr (Or.inr u)))) (fun x u => u.elim Or.inl (fun u => Or.inr (Or.inr (Or.inr (Or.inr (Or.inr u)))))) mv.2.1.1.2.2
  refine ⟨x01, L', up1 R 1 R', up1 k 1 k', N, P, Q, G', V, e30 (fun u => ?_), fun u => ⟨c1, ?_, fun j hj => ?_⟩, fun u => ⟨l, hf u⟩⟩
  · rcases u with u | ⟨l, hl, u⟩
    · unfold Ipk at u; omega
    · have tb := (N.2.1.1 1 (by decide)).2.1 l (by rw [up1_s]; omega)
      have e : mR M' R' = mR M1 R' := mv.2.2.2.1.1
      rw [up1_s, e] at tb
      omega
  · rw [up1_s, ← hl u]
    exact mv.2.2.2.2.2.2
  · have el := hl u
    have e := hX.2.2 j (by omega)
    rw [up1_s, e]
    refine ⟨rfl, ?_⟩
    rw [← e]
    exact mv.2.2.2.2.2.2.fit (by omega) (mv.2.1.1.2.1.nn0 (mv.2.1.2.2.1.2.2.2.2.2 j (by omega)).2.1)
/-- the table of withins begins -/
theorem n_begin {n9 : Nat → Rat} (hn : ∀ j, j < cn → n9 j = if mI M (g + 2) j = 3 then 1 else 0) (h : Nms L W s g b cn cc bc v R k M) (hc : Cnu Z L s v R k M) (f1 : mI M (v 1) 1 = 0) (hWr : ∀ x, b ≤ x → 17 ≤ W x ∧ W x ≤ 20000) : Cv G y_Fs_begin (d + 4) [vr (v 1), vr g] M (mvR Z L W s g b cn cc bc v k n9 M 1) := by
  have b1 := h.2.2.1.1
  have t1 := h.2.1.1 1 (by decide)
  have bz := h.2.2.1.2
  have c5 := h.1.1.2.2.2.2.1.1
  refine (f_begin (d := d) (h.1.sva b1 t1).te t1.2.2.2.1 c5 h.cnt.1 (fun x hx => by have := hWr x (by omega); omega)).mono (fun M' q => ?_)
  obtain ⟨L', R', k', M1, gw, te, ⟨c1, c2⟩, gr, p1, p2, nb, bg, bw⟩ := q
  have k5 : k' ≤ 512 := by
    have := t1.2.2.2.1
    rcases gr with ⟨-, -, -, e⟩ | ⟨-, e, -⟩ <;> omega
  have FB := te.1.2.1
  obtain ⟨N, P, Q, G', V, e30⟩ := h.gx (i := 1) hc (by decide) f1 gw te k5 gr p1 (fun j a b => (p2 j a b).1) c1 (nb.nx FB) (fun x u => Or.inr (Or.inr (Or.inr u))) (fun x u => Or.inr (Or.inr (Or.inr (Or.inr (Or.inr u))))) (nb.sk FB te.1.2.2)
  have t1' := N.2.1.1 1 (by decide)
  rw [up1_s, up1_s] at t1'
  have rR := (nb.nx FB).rwt FB te.2.2.1 (by have := t1'.2.2.2.2; omega) (by have := t1'.2.2.2.2; omega)
  refine ⟨Or.inr rfl, L', up1 R 1 R', up1 k 1 k', N, P, Q, G', V, e30 (fun ⟨l, hl, u⟩ => ?_), fun _ => ⟨c1, ?_, fun j hj => ?_⟩, fun u => absurd u (by decide)⟩
  · have tb := t1'.2.1 l (by omega)
    rw [rR.2] at tb
    omega
  · rw [up1_s]
    have p1' : (1 : Int) < 2 ^ (30 * 16) := by decide +kernel
    refine ⟨fun l hl => ?_, fun l hl => ?_, fun l hl => (bg l hl).2.2⟩
    · obtain ⟨g1, g3, -⟩ := bg l hl
      rw [g3]
      exact ⟨by decide, p1', by rcases g1 with e | e <;> rw [e] <;> omega⟩
    · obtain ⟨g1, g3, -⟩ := bg l hl
      rw [g3]
      exact ⟨by rcases g1 with e | e <;> rw [e] <;> decide, by decide⟩
  · rw [up1_s, hn j hj]
    refine ⟨?_, ft_01 (Classical.em _)⟩
    have e1 := bw j hj
    rw [G' 2 (by decide)] at e1
    have z0 : ((0 : Int) : Rat) = 0 := rfl
    have z1 : ((1 : Int) : Rat) = 1 := rfl
    unfold rwv
    rw [e1, (bg j hj).2.1]
    split
    · rw [z1]; grind
    · rw [z0, z1]; grind
end NCR
end
section
/-! The class's top: within. -/
section NCS
variable {G : mG} {d t b i j a Ra n cn cc bc z w : Nat} {v v0 R k k0 Rn kn : Nat → Nat} {M M0 M' M1 : mM} {L L0 L' L1 : List Nat} {W : Nat → Nat} {T C S Z : Nat → Prop} {r : Prop}
/-- within on its way: the tables 1 and 2 may have changed places -/
def wnI (Z : Nat → Prop) (L0 : List Nat) (W : Nat → Nat) (t b cn cc bc : Nat) (v0 k0 : Nat → Nat) (M0 : mM) (v : Nat → Nat) (L : List Nat) (R k : Nat → Nat) (M : mM) : Prop := Nms L W (t + 85) (t + 62) b cn cc bc v R k M ∧ Tr t v M ∧ (v = v0 ∨ v = fun i => v0 (sg i)) ∧ FC (fun x => Z x ∨ x = t) M0 M ∧ Cnu (Zn Z M0 M) L (t + 85) v R k M ∧ Rq L0 k0 M0 L k M ∧ ((∀ j, j ≤ 9 → mI M (t + 62 + j) = mI M0 (t + 62 + j)) ∧ mI M t = mI M0 t ∧ mI M (v0 0) = mI M0 (v0 0) ∧ mI M (v0 3) = mI M0 (v0 3) ∧ mI M (t + 85 + 30) = mI M0 (t + 85 + 30)) ∧ mI M (v 2) 1 = 0 ∧ ∀ i, i ≠ 12 → i ≠ 13 → mR M t i = mR M0 t i
/-- what one more move makes, told by the tables -/
theorem wi_nx {g : Nat} {Rb m : Nat} (hG : GTT M g cn cc bc) (hv : ∀ j, j < cn → rwv M Rb j = wi9 (xtm M g cn) m j) : nxH M g Rb cn (wi9 (xtm M g cn) (m + 1)) := fun j hj => by
  have gt : (xtm M g cn)[j]? = some (stm M g j) := by rw [xtm_map, rget, if_pos hj]
  have e1 : wi9 (xtm M g cn) (m + 1) j = stv9 (wi9 (xtm M g cn) m) (stm M g j) := by
    show (((xtm M g cn)[j]?).map (fun y => stv9 (wi9 (xtm M g cn) m) y)).getD 0 = _
    rw [gt]
    rfl
  refine ⟨fun u => ?_, fun x y u1 u2 u3 => ?_⟩
  · have l0 : (stm M g j).2.length = 0 := by
      show (cml M g (mI M (g + 4) j).toNat ((mI M (g + 4) (j + 1)).toNat - (mI M (g + 4) j).toNat)).length = 0
      rw [cml_map, List.length_map, List.length_range, u]
      omega
    have e2 : stv9 (wi9 (xtm M g cn) m) (stm M g j) = if mI M (g + 2) j = 3 then 1 else 0 := by
      unfold stv9
      rw [l0]
      rfl
    rw [e1, e2, hv j hj]
    cases m with
    | zero =>
      show _ = (((xtm M g cn)[j]?).map (fun y => if y.1 = 3 then (1 : Rat) else 0)).getD 0
      rw [gt]
      rfl
    | succ m =>
      show _ = (((xtm M g cn)[j]?).map (fun y => stv9 (wi9 (xtm M g cn) m) y)).getD 0
      rw [gt]
      show _ = stv9 (wi9 (xtm M g cn) m) (stm M g j)
      unfold stv9
      rw [l0]
      rfl
  · obtain ⟨x', y', g1, g2, g3, g4⟩ := hG.2.2.1 j hj
    have ll : (stm M g j).2 = cml M g x (y - x) := by
      unfold stm
      rw [u1, u2, Int.toNat_natCast, Int.toNat_natCast]
    have ln : (stm M g j).2.length = (y - 1 - x) + 1 := by
      rw [ll, cml_map, List.length_map, List.length_range]
      omega
    have e2 : stv9 (wi9 (xtm M g cn) m) (stm M g j) = bst9 (mI M (g + 2) j = 1) (fun i => wr9 (wi9 (xtm M g cn) m) (cq0 (stm M g j) i)) (y - 1 - x) := by
      unfold stv9
      rw [ln]
      rfl
    rw [e1, e2]
    refine bst_cg _ (fun i hi => ?_)
    have ec : cq0 (stm M g j) i = cmm M g (x + i) := cq0_of (by rw [ll, cml_map, rget, if_pos (by omega)])
    rw [ec]
    exact wr_cg (fun b hb => (hv _ (cmm_lt (hG.2.1 (x + i) (by omega)) b hb)).symm)
theorem cml_same {g x n : Nat} (e : ∀ i, i ≤ 9 → mI M' (g + i) = mI M (g + i)) : cml M' g x n = cml M g x n := by
  have f : (fun t => cmm M' g (x + t)) = (fun t => cmm M g (x + t)) := funext (fun t => cmm_same e)
  rw [cml_map, cml_map, f]
theorem xtm_same {g : Nat} (e : ∀ i, i ≤ 9 → mI M' (g + i) = mI M (g + i)) : xtm M' g cn = xtm M g cn := by
  have f : stm M' g = stm M g := by
    funext j
    unfold stm
    rw [e 2 (by decide), e 4 (by decide), cml_same e]
  rw [xtm_map, xtm_map, f]
theorem xtm_len {g : Nat} : (xtm M g cn).length = cn := by rw [xtm_map, List.length_map, List.length_range]
def wnQ (Z : Nat → Prop) (L0 : List Nat) (W : Nat → Nat) (t b cn cc bc : Nat) (v0 k0 : Nat → Nat) (n : Nat) (M0 : mM) (x : Int) (M : mM) : Prop := (i32 x ∧ anA9 (xtm M0 (t + 62) cn) n x) ∧ ∃ v L R k, wnI Z L0 W t b cn cc bc v0 k0 M0 v L R k M
theorem rsm17 (h : Rsm M Ra cn 16) : Rsm M Ra cn 17 := fun l hl => by
  obtain ⟨a1, a2, a3⟩ := h l hl
  have p : (2 : Int) ^ (30 * 16) ≤ 2 ^ (30 * 17) := by decide +kernel
  exact ⟨a1, Int.lt_of_lt_of_le a2 p, Int.lt_of_lt_of_le a3 p⟩
theorem vsw (hv : v = v0 ∨ v = fun i => v0 (sg i)) : (v 0 = v0 0 ∧ v 3 = v0 3) ∧ ((fun i => v (sg i)) = v0 ∨ (fun i => v (sg i)) = fun i => v0 (sg i)) := by
  rcases hv with e | e
  · subst e
    exact ⟨⟨rfl, rfl⟩, Or.inr rfl⟩
  · subst e
    refine ⟨⟨rfl, rfl⟩, Or.inl ?_⟩
    funext i
    show v0 (sg (sg i)) = v0 i
    congr 1
    unfold sg
    by_cases c1 : i = 1
    · rw [if_pos c1, if_neg (by decide), if_pos rfl, c1]
    · rw [if_neg c1]
      by_cases c2 : i = 2
      · rw [if_pos c2, if_pos rfl, c2]
      · rw [if_neg c2, if_neg c1, if_neg c2]
theorem zn_no {x : Nat} (nz : ¬ Z x) (hx : x < mZ M) : ¬ Zn Z M M' x := fun u => u.elim nz (fun u => by omega)
/-- a step of numbers in within -/
theorem wnI.mv {n9 : Nat → Rat} {x : Int} (h : wnI Z L0 W t b cn cc bc v0 k0 M0 v L R k M) (nz : ¬ Z t) (tz : t < mZ M0) (f1 : mI M (v 1) 1 = 0) (q : mvR (Zn Z M0 M) L W (t + 85) (t + 62) b cn cc bc v k n9 M x M') : ∃ L' Rn kn, wnI Z L0 W t b cn cc bc v0 k0 M0 v L' Rn kn M' ∧ mI M' (v 1) 1 = 0 ∧ (x ≠ 0 → cn ≤ kn 1 ∧ Rok M' (Rn 1) cn ∧ ∀ j, j < cn → rwv M' (Rn 1) j = n9 j ∧ ft9 (n9 j)) ∧ (x = 0 → ∃ j, j < cn ∧ ¬ ft9 (n9 j)) := by
  obtain ⟨h1, h2, h3, h4, h5, h6, ⟨h7, h8, h9, h10, h11⟩, h12, h14⟩ := h
  obtain ⟨-, L', Rn, kn, q1, q2, q3, q4, q5, q6, q7⟩ := q
  obtain ⟨⟨v00, v03⟩, -⟩ := vsw h3
  have nt : ¬ Zn Z M0 M t := zn_no nz tz
  obtain ⟨r1, r2⟩ := h2.fc q2.1 nt
  have rt : mR M' t = mR M t := ((q2.1.2 t h2.2.2.2.2).2.2 nt).2.1
  have f' : FC (Zn (fun x => Z x ∨ x = t) M0 M) M M' := q2.1.mono (fun x _ u => u.elim (fun u => Or.inl (Or.inl u)) Or.inr)
  refine ⟨L', Rn, kn, ⟨q1, r1, h3, h4.trans f', q2.2.cg (fun x u => (Zn.trans h4.1.1 q2.1.1.1).mp u), h6.trans q3, ⟨fun j hj => by rw [q4 j hj, h7 j hj], by rw [r2, h8], by rw [← v00, q5 0 (by decide), v00, h9], by rw [← v03, q5 3 (by decide), v03, h10], by rw [q6, h11]⟩, by rw [q5 2 (by decide)]; exact h12, fun i a b => by rw [rt]; exact h14 i a b⟩, by rw [q5 1 (by decide)]; exact f1, q7⟩
/-- the tables change places -/
theorem wnI.sw {M31 : mM} (h : wnI Z L0 W t b cn cc bc v0 k0 M0 v L R k M) (nz : ¬ Z t) (tz : t < mZ M0) (f1 : mI M (v 1) 1 = 0) (e1 : M31 = mUR M t 12 (mR M t 13)) (e2 : M' = mUR M31 t 13 (mR M t 12)) : wnI Z L0 W t b cn cc bc v0 k0 M0 (fun i => v (sg i)) L (fun i => R (sg i)) (fun i => k (sg i)) M' ∧ mI M' (v 2) 1 = 0 ∧ mI M' = mI M ∧ (∀ a, a ∈ L → nv M' a = nv M a) ∧ (mR M' (R 1) = mR M (R 1)) := by
  obtain ⟨h1, h2, h3, h4, h5, h6, ⟨h7, h8, h9, h10, h11⟩, h12, h14⟩ := h
  obtain ⟨-, hv⟩ := vsw h3
  have nt : ¬ Zn Z M0 M t := zn_no nz tz
  have eI : mI M' = mI M := by rw [e2, mI_UR, e1, mI_UR]
  have o' : mOk M' := by rw [e2]; refine mOk_UR ?_; rw [e1]; exact mOk_UR h1.cnt.2.2.2
  have z' : mZ M' = mZ M ∧ mS M' = mS M := by rw [e2, mZ_UR, mS_UR, e1, mZ_UR, mS_UR]; exact ⟨rfl, rfl⟩
  have rr : ∀ x i, mR M' x i = if x = t ∧ i = 13 then mR M t 12 else if x = t ∧ i = 12 then mR M t 13 else mR M x i := fun x i => by rw [e2, mR_UR, e1, mR_UR]
  have f : FC (fun x => x = t) M M' := by
    refine ⟨⟨by rw [z'.1]; exact Nat.le_refl _, by rw [z'.2]; exact Nat.le_refl _⟩, fun x _ => ⟨by rw [e2, mK_UR, e1, mK_UR], by rw [e2, mN_UR, e1, mN_UR], fun nx => ⟨by rw [e2, mL_UR, e1, mL_UR], ?_, by rw [eI]⟩⟩⟩
    funext i
    rw [rr, if_neg (fun u => nx u.1), if_neg (fun u => nx u.1)]
  have no : ∀ x, Zm L (t + 85) v R k M x → ¬ x = t := fun x u e => nt (by rw [← e]; exact zm_in h5 x u)
  obtain ⟨N, ks, cps⟩ := h1.off f o' no (fun i hi => by omega)
  have N' := N.sw (by rw [eI]; exact h12)
  obtain ⟨t1, ⟨t2, t3⟩, ⟨t4, t5, t6, t7⟩, ⟨t8, t9, t10⟩, t11⟩ := h2
  have rt : ∀ i, i ≠ 12 → i ≠ 13 → mR M' t i = mR M t i := fun i a b => by rw [rr, if_neg (fun u => b u.2), if_neg (fun u => a u.2)]
  have ecp := pn_cg (k := k) cps
  have sw1 := Pn.sw (L := L) (k := k) (M := M')
  have rq : Rq L k M L (fun i => k (sg i)) M' := by
    unfold Rq
    rw [sw1.1, sw1.2.1, ecp.1, ecp.2, z'.1, z'.2, sw1.2.2]
    exact ⟨Nat.le_refl _, Nat.le_refl _, Nat.le_refl _, fun _ u => u, fun x u => u.sm (f.sm u.1.2.2 (fun e => by have k1 := u.1.1; rw [e, t1] at k1; omega)) f.1.1⟩
  refine ⟨⟨N', ⟨by rw [(f.2 t t11).1]; exact t1, ⟨by rw [rt 9 (by decide) (by decide)]; exact t2, by rw [rt 10 (by decide) (by decide)]; exact t3⟩, ⟨by rw [rt 11 (by decide) (by decide)]; exact t4, ?_, ?_, by rw [rt 14 (by decide) (by decide)]; exact t7⟩, ⟨by rw [rt 15 (by decide) (by decide)]; exact t8, by rw [rt 16 (by decide) (by decide)]; exact t9, by rw [rt 17 (by decide) (by decide)]; exact t10⟩, by rw [z'.1]; exact t11⟩, hv, h4.trans (f.mono (fun x _ u => Or.inl (Or.inr u))), ?_, h6.trans rq, ⟨fun j hj => by rw [eI]; exact h7 j hj, by rw [eI]; exact h8, by rw [eI]; exact h9, by rw [eI]; exact h10, by rw [eI]; exact h11⟩, by rw [eI]; exact f1, fun i a b => by rw [rt i a b]; exact h14 i a b⟩, by rw [eI]; exact h12, eI, fun a ha => (h1.1.2.1.1.sm ks.2.2.1 ks.1).2 a ha |>.1, ?_⟩
  · rw [rr, if_neg (fun u => absurd u.2 (by decide)), if_pos ⟨rfl, rfl⟩]; exact t6
  · rw [rr, if_pos ⟨rfl, rfl⟩]; exact t5
  · have c := (ks.cnu f h5).sw
    have : Zn Z M0 M' = Zn Z M0 M := by funext x; unfold Zn; rw [z'.1]
    rw [this]
    exact c
  · exact (ks.2.2.2 1 (by decide)).2.1.2.2.1
theorem s_wi57 {l : Nat} (hl : l ≤ 32) (nz : ¬ Z t) (tz : t < mZ M0) (hWr : ∀ x, b ≤ x → 17 ≤ W x ∧ W x ≤ 20000) (hWs : ∀ x, t + 85 ≤ x → x ≤ t + 85 + 134 → 300 ≤ W x) : ∀ (u m : Nat) (v : Nat → Nat) (L : List Nat) (R k : Nat → Nat) (M : mM), l ≤ m + u → m ≤ l → wnI Z L0 W t b cn cc bc v0 k0 M0 v L R k M → mI M (v 1) 1 = 0 → cn ≤ k 1 → Rok M (R 1) cn → (∀ j, j < cn → rwv M (R 1) j = wi9 (xtm M0 (t + 62) cn) m j) → (∀ r, r ≤ m → ∀ j, j < cn → ft9 (wi9 (xtm M0 (t + 62) cn) r j)) → h_CA_within_57 G (d + 8) t l m M (wnQ Z L0 W t b cn cc bc v0 k0 l M0) := by
  intro u
  have fin : ∀ {v : Nat → Nat} {L : List Nat} {R k : Nat → Nat} {M M28 : mM}, wnI Z L0 W t b cn cc bc v0 k0 M0 v L R k M → cn ≤ k 1 → Rok M (R 1) cn → (∀ r, r ≤ l → ∀ j, j < cn → ft9 (wi9 (xtm M0 (t + 62) cn) r j)) → M28 = mUI M (v 1) 1 1 → wnQ Z L0 W t b cn cc bc v0 k0 l M0 0 M28 := fun {v L R k M M28} h ck ro ff e => by
    obtain ⟨h1, h2, h3, h4, h5, h6, ⟨h7, h8, h9, h10, h11⟩, h12, h14⟩ := h
    obtain ⟨⟨v00, v03⟩, -⟩ := vsw h3
    obtain ⟨N, f, o⟩ := h1.mark (i := 1) (by decide) ⟨ck, rsm17 ro.1, ro.2.2⟩ e
    have tb := h1.2.1
    have zv : Zn Z M0 M (v 1) := (h5.2.2.1 1 (by decide)).1
    have ne : ∀ x, x ≠ v 1 → mI M28 x = mI M x := fun x hx => f.2.2.2.2.2.2 x hx
    have v1b := (tb.1 1 (by decide)).2.2.2.2.1
    have F := f.fc (Z := Zn (fun x => Z x ∨ x = t) M0 M) (fun x u => by rw [u]; exact zv.elim (fun u => Or.inl (Or.inl u)) Or.inr)
    have tv : t ≠ v 1 := fun e => zn_no nz tz (by rw [e]; exact zv)
    have z' : mZ M28 = mZ M := f.2.2.2.2.1
    refine ⟨⟨⟨by decide, by decide⟩, Or.inl ⟨rfl, fun r hr j hj => ff r hr j (by rw [xtm_len] at hj; exact hj)⟩⟩, v, L, R, k, N, ?_, h3, h4.trans F, ?_, h6.trans f.rq, ⟨fun j hj => ?_, by rw [ne t tv]; exact h8, ?_, ?_, by rw [ne _ (by omega)]; exact h11⟩, ?_, fun i a b => by rw [f.2.2.1]; exact h14 i a b⟩
    · obtain ⟨t1, t2, t3, t4, t5⟩ := h2
      exact ⟨by rw [f.1]; exact t1, by rw [f.2.2.1]; exact t2, by rw [f.2.2.1]; exact t3, by rw [f.2.2.1]; exact t4, by rw [z']; exact t5⟩
    · have c := f.cnu h5
      refine c.cg (fun x u => ?_)
      rcases u with u | u
      · unfold Zn at u ⊢; rw [z']; exact u
      · omega
    · rw [ne _ (fun e => by
        have := h1.1.2.2.2 j hj
        have kv := (tb.1 1 (by decide)).1.1
        have gk := h1.1.1.2.2.1
        by_cases c : j = 0
        · subst c
          rw [Nat.add_zero] at e
          rw [← e, gk.1] at kv
          omega
        · have := gk.2.2.1 j (by omega) hj
          rw [e, kv] at this
          omega)]
      exact h7 j hj
    · rw [← v00, ne _ (tb.2 0 1 (by decide) (by decide) (by decide)).2.1, v00]; exact h9
    · rw [← v03, ne _ (tb.2 3 1 (by decide) (by decide) (by decide)).2.1, v03]; exact h10
    · rw [ne _ (tb.2 2 1 (by decide) (by decide) (by decide)).2.1]; exact h12
  induction u with
  | zero =>
    intro m v L R k M hu hm h f1 ck ro hv9 ff
    have o := h.1.cnt.2.2.2
    refine k_CA_within_57 o (i32s (by omega) (by omega)) (i32s (by omega) (by omega)) ⟨fun _ => ?_, fun w => absurd (by omega) w⟩
    rw [h.2.1.2.2.1.2.1]
    exact ⟨h.2.1.1, (h.1.2.1.1 1 (by decide)).1.1, fun M28 e => fin h ck ro (fun r hr => ff r (by omega)) e⟩
  | succ u ih =>
    intro m v L R k M hu hm h f1 ck ro hv9 ff
    have o := h.1.cnt.2.2.2
    have r12 := h.2.1.2.2.1.2.1
    refine k_CA_within_57 o (i32s (by omega) (by omega)) (i32s (by omega) (by omega)) ⟨fun w => ?_, fun w => ⟨h.2.1.1, fun M31 e31 M33 e33 => ?_⟩⟩
    · rw [r12]
      exact ⟨h.2.1.1, (h.1.2.1.1 1 (by decide)).1.1, fun M28 e => fin h ck ro (fun r hr => ff r (by omega)) e⟩
    obtain ⟨h', f2, eI, nvs, eR⟩ := h.sw nz tz f1 e31 e33
    have r' := h'.2.1
    have s0 := h'.1.1.1.2.1
    rw [r'.2.1.2, r'.2.1.1, r'.2.2.1.2.1, r12, s0.2.1.1]
    have fl := (h.1.2.1.1 1 (by decide)).1.2.2.2.2.2
    have ro' : Rok M33 (R 1) cn := ro.cg eR (fun i hi => ⟨nvs _ (fl i (by omega)).2.1, nvs _ (fl i (by omega)).2.2, by rw [eI]⟩)
    have ex : xtm M33 (t + 62) cn = xtm M0 (t + 62) cn := xtm_same (fun i hi => h'.2.2.2.2.2.2.1.1 i hi)
    have hv33 : ∀ j, j < cn → rwv M33 (R 1) j = wi9 (xtm M33 (t + 62) cn) m j := fun j hj => by
      rw [ex, ← hv9 j hj]
      exact rwv_cg eR (nvs _ (fl j (by omega)).2.1) (nvs _ (fl j (by omega)).2.2)
    have hn33 := wi_nx (m := m) h'.1.1.1.2.2.2.2 hv33
    rw [ex] at hn33
    refine ⟨s0.1.1, h'.1.1.2.1.2.1.1.1, (n_move (d := d) (R := fun i => R (sg i)) hn33 h'.1 h'.2.2.2.2.1 f2 ck ro' hWr hWs).mono (fun x M37 q => ?_)⟩
    have x01 := q.1
    obtain ⟨L', Rn, kn, I', f1', hx, hx0⟩ := h'.mv nz tz f2 q
    refine ⟨m_b32 x01, I'.1.cnt.2.2.2, fun c => ⟨⟨⟨by decide, by decide⟩, Or.inr ⟨rfl, m + 1, by omega, ?_⟩⟩, _, L', Rn, kn, I'⟩, fun c => ?_⟩
    · obtain ⟨j, hj, nf⟩ := hx0 c
      exact ⟨j, by rw [xtm_len]; exact hj, nf⟩
    obtain ⟨ck', ro'', vv⟩ := hx c
    rw [show ((m : Int) + 1) = ((m + 1 : Nat) : Int) by first | rfl | omega]
    exact ih (m + 1) _ L' Rn kn M37 (by omega) (by omega) I' f1' ck' ro'' (fun j hj => (vv j hj).1) (fun r hr j hj => by
      by_cases z : r = m + 1
      · rw [z]; exact (vv j hj).2
      · exact ff r (by omega) j hj)
/-- within, where it does not throw -/
theorem n_CA_within {l : Int} (hl : 0 ≤ l ∧ l ≤ 32) (h : Nms L W (t + 85) (t + 62) b cn cc bc v R k M) (hc : Cnu Z L (t + 85) v R k M) (hr : Tr t v M) (nz : ¬ Z t) (c1 : 1 ≤ cn) (f2 : mI M (v 2) 1 = 0) (hWr : ∀ x, b ≤ x → 17 ≤ W x ∧ W x ≤ 20000) (hWs : ∀ x, t + 85 ≤ x → x ≤ t + 85 + 134 → 300 ≤ W x) : Ci G y_CA_within (d + 9) [vr t, vi l] M (wnQ Z L W t b cn cc bc v k l.toNat M) := by
  obtain ⟨e0, kg, ks, o⟩ := h.cnt
  have tz := hr.2.2.2.2
  obtain ⟨n, en⟩ : ∃ n : Nat, l = ((n : Nat) : Int) := ⟨l.toNat, by omega⟩
  subst en
  have t1 := h.2.1.1 1 (by decide)
  have tb := h.2.1
  refine k_CA_within o (i32s (by omega) (by omega)) ⟨fun u => by rcases u with u | u <;> omega, fun _ => ?_⟩
  rw [hr.2.1.1, hr.2.2.1.2.1, e0]
  refine ⟨hr.1, kg, fun u => absurd u (by omega), fun _ => ⟨t1.1.1, fun M14 e14 => ?_⟩⟩
  have sv := h.1.sva h.2.2.1.1 t1
  have f14 : FI (fun x => x = v 1) M M14 := by rw [e14]; exact FI.ui rfl
  have o14 : mOk M14 := by rw [e14]; exact mOk_UI o ⟨by decide, by decide⟩
  have fl : mI M14 (v 1) 1 = 0 := by rw [e14, mI_UI, if_pos ⟨rfl, rfl⟩]
  have ne : ∀ x, x ≠ v 1 → mI M14 x = mI M x := fun x hx => f14.2.2.2.2.2.2 x hx
  have N14 : Nms L W (t + 85) (t + 62) b cn cc bc v R k M14 := h.fi f14 o14 (fun x u => by rw [u]; exact ⟨t1.1.2.2.2.2.1.1, by rw [t1.1.1]; decide⟩) (sv.fi (f14.mono (fun x u => Or.inl u)) o14).1.sb (fun j hj j2 => by
    by_cases c : j = 1
    · subst c; exact Or.inr fl
    · exact Or.inl (by rw [ne _ (tb.2 j 1 hj (by decide) c).2.1]))
  have zv : Z (v 1) := (hc.2.2.1 1 (by decide)).1
  have tv : t ≠ v 1 := fun e => nz (by rw [e]; exact zv)
  have v1b := t1.2.2.2.2.1
  have I14 : wnI Z L W t b cn cc bc v k M v L R k M14 := by
    refine ⟨N14, ?_, Or.inl rfl, f14.fc (fun x u => by rw [u]; exact Or.inl zv), f14.cnu hc, f14.rq, ⟨fun j hj => f14.2.2.2.2.2.2 _ (fun e => sv.gst hj (Or.inl e)), ne t tv, ne _ (tb.2 0 1 (by decide) (by decide) (by decide)).2.1, ne _ (tb.2 3 1 (by decide) (by decide) (by decide)).2.1, ne _ (by omega)⟩, by rw [ne _ (tb.2 2 1 (by decide) (by decide) (by decide)).2.1]; exact f2, fun i _ _ => by rw [f14.2.2.1]⟩
    obtain ⟨t1, t2, t3, t4, t5⟩ := hr
    exact ⟨by rw [f14.1]; exact t1, by rw [f14.2.2.1]; exact t2, by rw [f14.2.2.1]; exact t3, by rw [f14.2.2.1]; exact t4, by rw [f14.2.2.2.2.1]; exact t5⟩
  have r' := I14.2.1
  rw [r'.2.2.1.2.1, r'.2.1.1]
  have hn0 : ∀ j, j < cn → wi9 (xtm M (t + 62) cn) 0 j = if mI M14 (t + 62 + 2) j = 3 then 1 else 0 := fun j hj => by
    have gt : (xtm M (t + 62) cn)[j]? = some (stm M (t + 62) j) := by rw [xtm_map, rget, if_pos hj]
    show (((xtm M (t + 62) cn)[j]?).map (fun y => if y.1 = 3 then (1 : Rat) else 0)).getD 0 = _
    rw [gt, I14.2.2.2.2.2.2.1.1 2 (by decide)]
    rfl
  refine ⟨(N14.2.1.1 1 (by decide)).1.1, (n_begin (d := d + 4) hn0 N14 I14.2.2.2.2.1 fl hWr).mono (fun M17 q => ?_)⟩
  obtain ⟨L', Rn, kn, I', f1', hx, -⟩ := I14.mv nz tz fl q
  obtain ⟨ck', ro', vv⟩ := hx (by decide)
  rw [Int.toNat_natCast]
  exact ⟨I'.1.cnt.2.2.2, s_wi57 (d := d) (by omega) nz tz hWr hWs n 0 v L' Rn kn M17 (by omega) (by omega) I' f1' ck' ro' (fun j hj => (vv j hj).1) (fun r hr j hj => by
    have r0 : r = 0 := by omega
    rw [r0]
    exact (vv j hj).2)⟩
end NCS
end
section
/-! The class's top: choices are told. -/
section NCT
variable {G : mG} {d t g s c cn cc bc k j n : Nat} {M M' M0 : mM} {v : Nat → Nat}
theorem GTT.told (h : GTT M g cn cc bc) (e : ∀ i, i ≤ 9 → i ≠ 3 → mI M' (g + i) = mI M (g + i)) : GTT M' g cn cc bc := by
  obtain ⟨h1, h2, h3, h4⟩ := h
  have e0 := e 0 (by decide) (by decide)
  rw [Nat.add_zero] at e0
  have e4 := e 4 (by decide) (by decide)
  have e7 := e 7 (by decide) (by decide)
  exact ⟨h1, fun c hc => (h2 c hc).cg ⟨by rw [e7], by rw [e7]⟩ (by rw [e 6 (by decide) (by decide)]) (by rw [e 5 (by decide) (by decide)]) (fun i _ => ⟨by rw [e 8 (by decide) (by decide)], by rw [e 9 (by decide) (by decide)]⟩) (Nat.le_refl _) (Nat.le_refl _), fun j hj => by rw [e4]; exact h3 j hj, by rw [e0]; exact h4⟩
theorem GQ.told (hq : GQ M g cn k cc bc) (e : ∀ i, (i ≤ 9 ∧ i ≠ 3) ∨ i = 20 → mI M' (g + i) = mI M (g + i)) : GQ M' g cn k cc bc := by
  have e0 := e 0 (by omega)
  rw [Nat.add_zero] at e0
  obtain ⟨⟨q1, q2, q3⟩, q4, q5, q6⟩ := hq
  have e4 := e 4 (by omega)
  have e7 := e 7 (by omega)
  refine ⟨⟨by rw [e0]; exact q1, q2, fun i hi => by rw [e 20 (by omega)]; exact q3 i hi⟩, by rw [e0]; exact q4, by rw [e0]; exact q5, ?_⟩
  obtain ⟨t1, t2, t3, t4, t5, t6, t7, t8⟩ := q6
  exact ⟨t1, t2, fun c hc => (t3 c hc).cg ⟨by rw [e7], by rw [e7]⟩ (by rw [e 6 (by omega)]) (by rw [e 5 (by omega)]) (fun i _ => ⟨by rw [e 8 (by omega)], by rw [e 9 (by omega)]⟩) (Nat.le_refl _) (Nat.le_refl _), by rw [e7]; exact t4, t5, by rw [e4]; exact t6, by rw [e4]; exact t7, by rw [e4]; exact t8⟩
theorem GR.told (h : GR M g cn cc bc) (f : FI (fun x => x = g + 3) M M') : GR M' g cn cc bc := by
  have e : ∀ x, x ≠ g + 3 → mI M' x = mI M x := fun x hx => f.2.2.2.2.2.2 x hx
  rcases h with ⟨a, b⟩ | ⟨a, b⟩
  · exact Or.inl ⟨a, by rw [e g (by omega)]; exact b⟩
  · exact Or.inr ⟨a, b.told (fun i hi => e _ (by omega))⟩
/-- the command i of state k -/
def cmdP (M : mM) (g cn : Nat) (l1 l2 : Int) : Prop := (0 ≤ l1 ∧ l1 < cn) ∧ 0 ≤ l2 ∧ l2 < mI M (g + 4) (l1 + 1).toNat - mI M (g + 4) l1.toNat
theorem s_Ga_commandAt2 {l1 l2 : Int} (i1 : i32 l1) (i2 : i32 l2) (h1 : mOk M) (hk : GK M g) (hr : GR M g cn cc bc) : Ci G y_Ga_commandAt (d + 1) [vr g, vi l1, vi l2] M (fun r M' => M' = M ∧ i32 r ∧ (cmdP M g cn l1 l2 → 0 ≤ r) ∧ (¬ cmdP M g cn l1 l2 → r = -1)) := by
  obtain ⟨g0, ⟨-, -, -, g4, -⟩, ⟨-, -, -, k4, -⟩, ⟨-, -, -, n4, -⟩⟩ := id hk
  have hc := hr.cnt
  refine k_Ga_commandAt h1 i1 i2 ⟨g0, (s_Ga_hasState i1 h1 g0 hc.1).mono (fun x3 M2 q => ?_)⟩
  obtain ⟨e2, hx, hiff⟩ := q
  subst e2
  have rows : x3 ≠ 0 → ∃ a b : Nat, mI M2 (g + 4) l1.toNat = ((a : Nat) : Int) ∧ mI M2 (g + 4) (l1 + 1).toNat = ((b : Nat) : Int) ∧ a ≤ b ∧ b ≤ cc ∧ cc ≤ 4096 ∧ 0 ≤ l1 ∧ l1 < 512 ∧ 1 ≤ cn := fun y => by
    have b := hiff.mp y
    rcases hr with ⟨e1, -⟩ | ⟨c1, q⟩
    · omega
    · obtain ⟨⟨-, q2, -⟩, -, -, t1, t2, -, -, -, t6, -⟩ := q
      obtain ⟨x, y', f1, f2, f3, f4⟩ := t6 l1.toNat (by omega)
      exact ⟨x, y', f1, by rw [show (l1 + 1).toNat = l1.toNat + 1 by first | rfl | omega]; exact f2, f3, f4, by omega, b.1, by omega, c1⟩
  have bad : ((x3 = 0) ∨ (l2 < 0) ∨ ¬ (l2 < mI M2 (g + 4) (l1 + 1).toNat - mI M2 (g + 4) l1.toNat)) → ¬ cmdP M2 g cn l1 l2 := fun u p => by
    rcases u with u | u | u
    · exact (hiff.mpr p.1) u
    · exact absurd p.2.1 (by omega)
    · exact u p.2.2
  clear hr
  rw [g4, n4]
  refine ⟨m_b32 hx, h1, fun y _ => ?_, fun u => ⟨rfl, ⟨by decide, by decide⟩, fun p => absurd p (bad u), fun _ => rfl⟩, fun y => ?_⟩
  · obtain ⟨a, b, f1, f2, f3, f4, f5, f6, f7, f8⟩ := rows y
    rw [f1, f2]
    exact ⟨g0, k4, by omega, by omega, ⟨by omega, by omega⟩⟩
  · have y0 : x3 ≠ 0 := fun t => y (Or.inl t)
    have b0 := hiff.mp y0
    obtain ⟨a, b, f1, f2, f3, f4, f5, f6, f7, f8⟩ := rows y0
    have y1 : 0 ≤ l2 := by
      by_cases t : l2 < 0
      · exact absurd (Or.inr (Or.inl t)) y
      · omega
    have y2 : l2 < mI M2 (g + 4) (Int.toNat (l1 + 1)) - mI M2 (g + 4) (Int.toNat l1) := Classical.byContradiction (fun t => y (Or.inr (Or.inr t)))
    have yy : cmdP M2 g cn l1 l2 := ⟨b0, y1, y2⟩
    rw [f1, f2] at y2
    rw [f1]
    exact ⟨g0, k4, by omega, rfl, ⟨by omega, by omega⟩, fun _ => by omega, fun n => absurd yy n⟩
/-- what is told stays in bounds -/
theorem GS1.told {x : Int} {l : Nat} (h : GS M g n) (e : M' = mUI M (g + 3) l x) (hx : ∀ a b : Nat, mI M (g + 4) l = ((a : Nat) : Int) → mI M (g + 4) (l + 1) = ((b : Nat) : Int) → 0 ≤ x ∧ (x < ((b : Nat) : Int) - ((a : Nat) : Int) ∨ x = 0)) : GS M' g n := fun j hj => by
  have ne : ∀ y, y ≠ g + 3 → mI M' y = mI M y := fun y hy => by
    funext i
    rw [mI_ui y i e, if_neg (fun u => hy u.1)]
  by_cases c : j = l
  · subst c
    intro a b f1 f2
    rw [ne (g + 4) (by omega)] at f1 f2
    rw [ne (g + 2) (by omega), mI_ui (g + 3) j e, if_pos ⟨rfl, rfl⟩]
    exact ⟨hx a b f1 f2, (h j hj a b f1 f2).2⟩
  · exact (h j hj).cg (by rw [ne _ (by omega)]) (by rw [mI_ui (g + 3) j e, if_neg (fun u => c u.2)]) (by rw [ne _ (by omega)]) (by rw [ne _ (by omega)])
theorem g_CA_choose {l1 l2 : Int} (i1 : i32 l1) (i2 : i32 l2) (h : Tg M t g cn cc bc) (gs : 1 ≤ cn → GS M g (cn - 1)) (hp : cmdP M g cn l1 l2) : Cv G y_CA_choose (d + 2) [vr t, vi l1, vi l2] M (fun M' => mOk M' ∧ FI (fun x => x = g + 3) M M' ∧ GS M' g (cn - 1)) := by
  obtain ⟨h1, ⟨h2, h3⟩, h4, h5⟩ := h
  have hc := h5.cnt
  obtain ⟨g0, ⟨-, -, g3, -⟩, ⟨-, -, k3, -⟩, ⟨-, -, n3, -⟩⟩ := id h4
  refine k_CA_choose h1 i1 i2 ?_
  rw [h3]
  refine ⟨h2, g0, (s_Ga_commandAt2 (d := d) i1 i2 h1 h4 h5).mono (fun x4 M3 q => ?_)⟩
  obtain ⟨e, ix, q1, q2⟩ := q
  subst e
  rw [h3, g3, n3]
  have x0 := q1 hp
  obtain ⟨p1, p2, p3⟩ := hp
  refine ⟨ix, h1, fun u => by omega, fun _ => ⟨h2, g0, k3, by omega, fun M16 e16 => ⟨by rw [e16]; exact mOk_UI h1 i2, by rw [e16]; exact FI.ui rfl, GS1.told (gs (by omega)) e16 (fun a b f1 f2 => ?_)⟩⟩⟩
  rw [show (l1 + 1).toNat = l1.toNat + 1 by first | rfl | omega, f1, f2] at p3
  exact ⟨p2, Or.inl p3⟩
/-- adopt, where it does not throw -/
theorem g_CA_adopt (h : Tg M t g cn cc bc) (gs : 1 ≤ cn → GS M g (cn - 1)) (hs : mR M t 10 = s) (hS : SoT M s g) (ht : mR M t 11 = v 0 ∧ mK M (v 0) = 13) (kn : mI M (v 0) 1 ≠ 0) (ch : Chs M s g cn) : Cv G y_CA_adopt (d + 1) [vr t] M (fun M' => mOk M' ∧ FI (fun x => x = g + 3) M M' ∧ (1 ≤ cn → GS M' g (cn - 1))) := by
  obtain ⟨h1, ⟨h2, h3⟩, h4, h5⟩ := h
  have hc := h5.cnt
  obtain ⟨g0, ⟨-, -, g3, -⟩, ⟨-, -, k3, -⟩, ⟨-, -, n3, -⟩⟩ := id h4
  obtain ⟨⟨s0, sg⟩, ⟨-, -, r2, -⟩, ⟨-, k2, -⟩, ⟨-, n2, -⟩⟩ := hS
  refine k_CA_adopt h1 ?_
  rw [ht.1]
  refine ⟨h2, ht.2, fun u => absurd u kn, fun _ => ?_⟩
  suffices H : ∀ (u m : Nat) (M1 : mM), cn ≤ m + u → m ≤ cn → mOk M1 → FI (fun x => x = g + 3) M M1 → (1 ≤ cn → GS M1 g (cn - 1)) → h_CA_adopt_20 G d t m M1 (fun M' => mOk M' ∧ FI (fun x => x = g + 3) M M' ∧ (1 ≤ cn → GS M' g (cn - 1))) from H cn 0 M (by omega) (by omega) h1 FI.refl gs
  intro u
  induction u with
  | zero =>
    intro m M1 hu hm o f gs1
    have c0 : mI M1 g 0 = ((cn : Nat) : Int) := by rw [f.2.2.2.2.2.2 g (show ¬ g = g + 3 by first | rfl | omega)]; exact hc.1
    refine k_CA_adopt_20 o (i32s (by omega) (by omega)) ?_
    rw [f.2.2.1, f.1, h3, c0]
    exact ⟨h2, g0, fun _ => ⟨o, f, gs1⟩, fun w => absurd (by omega) w⟩
  | succ u ih =>
    intro m M1 hu hm o f gs1
    have c0 : mI M1 g 0 = ((cn : Nat) : Int) := by rw [f.2.2.2.2.2.2 g (show ¬ g = g + 3 by first | rfl | omega)]; exact hc.1
    have e30 : mI M1 (s + 30) = mI M (s + 30) := f.2.2.2.2.2.2 _ (show ¬ s + 30 = g + 3 by first | rfl | omega)
    have e4 : mI M1 (g + 4) = mI M (g + 4) := f.2.2.2.2.2.2 _ (show ¬ g + 4 = g + 3 by first | rfl | omega)
    refine k_CA_adopt_20 o (i32s (by omega) (by omega)) ?_
    rw [f.2.2.1, f.1, f.2.1, h3, c0, hs, r2, n2, g3, n3, Int.toNat_natCast, e30]
    refine ⟨h2, g0, fun _ => ⟨o, f, gs1⟩, fun w => ⟨s0, k2, by omega, k3, by omega, fun M19 e19 => ?_⟩⟩
    rw [show ((m : Int) + 1) = ((m + 1 : Nat) : Int) by first | rfl | omega]
    have i2 : i32 (if mI M (s + 30) m < 0 then 0 else mI M (s + 30) m) := by
      split
      · exact ⟨by decide, by decide⟩
      · exact (h1 _ _).1
    refine ih (m + 1) M19 (by omega) (by omega) (by rw [e19]; exact mOk_UI o i2) (f.trans (by rw [e19]; exact FI.ui rfl)) (fun c1 => GS1.told (gs1 c1) e19 (fun a b f1 f2 => ?_))
    rw [e4] at f1 f2
    rcases ch m (by omega) a b f1 f2 with ⟨y1, y2⟩ | ⟨y1, y2, y3⟩
    · rw [y2, if_pos (by decide)]
      exact ⟨by decide, Or.inr rfl⟩
    · rw [if_neg (by omega)]
      exact ⟨y2, Or.inl y3⟩
/-- a player's choices are commands -/
theorem tld_of {l : Int} (hl : l = 1 ∨ l = 2) (gs : 1 ≤ cn → GS M g (cn - 1)) : Tld M g cn l := fun _ k hk e x y f1 f2 => by
  obtain ⟨⟨a1, a2⟩, a3⟩ := gs (by omega) k (by omega) x y f1 f2
  have := a3 (by rw [e]; exact hl)
  exact ⟨a1, by rcases a2 with u | u <;> omega⟩
end NCT
end
section
/-! The class's top: its pieces, and what leaves them alone. -/
section NCU
variable {G : mG} {d t z q w x m n cn cc bc T Kt N A B D Cw p O P K p' O' P' K' Ab Be Cm U Ag Bg Cg V F L cnt : Nat} {M M' M1 : mM} {Z Y : Nat → Prop} {ns : Nat → Int} {sf ef : Nat → Nat} {v R k : Nat → Nat} {Ls : List Nat} {W : Nat → Nat} {c9 c8 : Nat → Int}
/-- the same memory with the old longs -/
def noL (M M' : mM) : mM := (mK M', mN M', mI M', (fun x j => if x < mZ M then mL M x j else mL M' x j), mR M', mZ M', mS M')
theorem FC.fa (h : FC Z M M') : FA Z Z M (noL M M') := by
  refine ⟨h.1, fun x hx => ⟨(h.2 x hx).1, (h.2 x hx).2.1, ?_, fun nz => ((h.2 x hx).2.2 nz).2.1, fun nz => ((h.2 x hx).2.2 nz).2.2⟩⟩
  funext j
  show (if x < mZ M then mL M x j else mL M' x j) = _
  rw [if_pos hx]
theorem PK.fc (h : PK M z p O P K) (f : FC Z M M') (np : ¬ Z p) : PK M' z p O P K := by
  have q : PK (noL M M') z p O P K := h.fa f.fa np
  exact q
theorem PW.fc (h : PW M z p O P K V F ns sf ef L cnt) (f : FC Z M M') (hs : ∀ i, i ≤ 15 → ¬ Z (p + i)) (hO : ¬ Z O) (hP : ¬ Z P) : PW M' z p O P K V F ns sf ef L cnt := by
  have q : PW (noL M M') z p O P K V F ns sf ef L cnt := h.fa f.fa (hs 0 (by decide)) hs hO hP
  exact q
theorem Tap.fc (h : Tap c9 M t T Kt N) (f : FC Z M M') (nT : ¬ Z T) (r0 : mR M' t 0 = mR M t 0) (i1 : mI M' t 1 = mI M t 1) : Tap c9 M' t T Kt N := by
  obtain ⟨⟨h1, h2, h3⟩, ⟨h4, h5⟩, ⟨h6, h7, h8⟩, h9, h10⟩ := h
  have e := f.sm h8 nT
  have := f.1.1
  exact ⟨⟨by rw [(f.2 t h7).1]; exact h1, by rw [r0]; exact h2, by rw [i1]; exact h3⟩, ⟨by rw [e.1]; exact h4, by rw [e.2.1]; exact h5⟩, ⟨h6, by omega, by omega⟩, h9, fun j hj => by rw [e.2.2.2]; exact h10 j hj⟩
theorem WB.fc (h : WB M w A B D Cw) (f : FC Z M M') (nw : ¬ Z w) : WB M' w A B D Cw := by
  obtain ⟨h1, h2, ⟨h3, h4, h5⟩, ⟨h6, h7, h8⟩, h9, ⟨z1, z2, z3, z4⟩, h10⟩ := h
  have := f.1.1
  have e := f.sm z1 nw
  exact ⟨by rw [e.1]; exact h1, by rw [e.2.2.1]; exact h2, ⟨by rw [(f.2 A z2).1]; exact h3, by rw [(f.2 B z3).1]; exact h4, by rw [(f.2 D z4).1]; exact h5⟩, ⟨by rw [(f.2 A z2).2.1]; exact h6, by rw [(f.2 B z3).2.1]; exact h7, by rw [(f.2 D z4).2.1]; exact h8⟩, h9, ⟨by omega, by omega, by omega, by omega⟩, h10⟩
theorem MK.fc (h : MK M z m U Ab Be Cm) (f : FC Z M M') (nm : ¬ Z m) : MK M' z m U Ab Be Cm := by
  have mz : m < mZ M := by
    have a := h.2.2.2.2.2.1.2.2.2
    have b := h.2.2.2.2.2.2.1.1
    omega
  have e := f.sm mz nm
  exact h.eq2 (fun x hx => ⟨(f.2 x hx).1, (f.2 x hx).2.1⟩) (fun i _ => by rw [e.2.2.1]) (by rw [e.2.2.2]) f.1.1
theorem TZ.fc (h : TZ M z q p O P K Ab Be Cm) (o : mOk M') (f : FC Z M M') (hq : ∀ x, q ≤ x → x ≤ q + 22 → ¬ Z x) (np : ¬ Z p) : TZ M' z q p O P K Ab Be Cm := by
  obtain ⟨-, h2, h3, h4, h5, h6, h7, h8, h9⟩ := h
  have zz := h6.2.2.2.2.1.1
  have sm : ∀ i, i ≤ 22 → Sm M M' (q + i) := fun i hi => f.sm (by omega) (hq _ (by omega) (by omega))
  have s0 := sm 0 (by decide)
  rw [Nat.add_zero] at s0
  refine ⟨o, h2.eq2 (fun i hi => ?_) (fun i _ => by rw [(sm 1 (by decide)).2.2.1]), by rw [s0.1, s0.2.2.1]; exact h3, by rw [(sm 21 (by decide)).1, (sm 22 (by decide)).1, (sm 21 (by decide)).2.1, (sm 22 (by decide)).2.1]; exact h4, h5.fc f (hq _ (by omega) (by omega)), h6.fc f np, h7, h8, fun j => by rw [(sm 6 (by decide)).2.2.2]; exact h9 j⟩
  have := sm (1 + i) (by omega)
  rw [← Nat.add_assoc] at this
  exact ⟨this.1, this.2.1⟩
/-- the program tells a game, whose exploration comes to X9 -/
def Pgm (X9 : xR9) (M : mM) (p O P : Nat) : Prop := ∃ (γ : gW9) (c4 : Nat × Nat × Nat × Nat) (n : Nat), NqO γ.1 γ.2.2.1 n ∧ CGm M p O P γ.1 γ.2.1 γ.2.2.1 γ.2.2.2.1 γ.2.2.2.2.1 n (γ.2.2.2.2.2.1, c4, ((0 : Int), (0 : Int))) γ.2.2.2.2.2.2 ∧ (mI M p 3 = ((vcn γ.2.2.2.2.2.1 : Nat) : Int) ∧ rcn γ.2.2.2.2.2.1 ≤ 60 ∧ mI M p 12 = ((c4.2.2.1 : Nat) : Int) ∧ c4.2.2.2 ≠ 0) ∧ X9 = XpG γ
theorem CGm.cgm {O P n Nn : Nat} {W pl nq : Nat → Int} {sm : Nat → Nat → Prop} {s : st9} {g : gm9} (h : CGm M p O P W pl nq sm Nn n s g) (ep : mI M' p = mI M p) (ei : ∀ i, 3 ≤ i → i ≤ 15 → mI M' (p + i) = mI M (p + i)) (eO : mI M' O = mI M O) (eP : mI M' P = mI M P) : CGm M' p O P W pl nq sm Nn n s g := by
  obtain ⟨L, ns, sf, ef, h1, h2, h3, h4, ⟨v1, v2, v3⟩, ⟨t1, t2⟩, h7, h8⟩ := h
  have cd : cdE O P L M M' := fun i _ => ⟨by rw [eO], by rw [eP]⟩
  have nn : ∀ x, x < rcn s.1 → ns x = ns x ∧ ef x = ef x := fun _ _ => ⟨rfl, rfl⟩
  refine ⟨L, ns, sf, ef, by rw [ep]; exact h1, h2, h3.cg (ei 6 (by decide) (by decide)) (ei 7 (by decide) (by decide)) (ei 8 (by decide) (by decide)) eO eP, h4, ⟨v1, fun v x hx => ?_, v3⟩, ⟨t1, fun tg htg => ?_⟩, h7, fun c cm hc => ?_⟩
  · rw [ei 3 (by decide) (by decide), ei 4 (by decide) (by decide), ei 5 (by decide) (by decide)]
    exact v2 v x hx
  · obtain ⟨sT, q1, q2⟩ := t2 tg htg
    have := q2.step (l9 := []) (ns' := ns) (ef' := ef) cd (Nat.le_refl L) nn
    rw [List.append_nil] at this
    exact ⟨sT, by rw [ep]; exact q1, this⟩
  · have := (h8 c cm hc).step (l9 := []) (ns' := ns) (ef' := ef) (fun i i1 i2 => ei i (by omega) i2) cd (Nat.le_refl L) (Nat.le_refl _) nn
    rw [List.append_nil] at this
    exact this
theorem Pgm.fc {X9 : xR9} (h : Pgm X9 M p O P) (f : FC Z M M') (pk : PK M z p O P K) (hs : ∀ i, i ≤ 15 → ¬ Z (p + i)) (hO : ¬ Z O) (hP : ¬ Z P) : Pgm X9 M' p O P := by
  have b := pk.2.2.2.1.2.2.2
  have c := pk.2.2.2.2.1
  have ei : ∀ i, i ≤ 15 → mI M' (p + i) = mI M (p + i) := fun i hi => (f.sm (by omega) (hs i hi)).2.2.2
  have ep : mI M' p = mI M p := ei 0 (by decide)
  obtain ⟨γ, c4, n, h1, h2, h3, h4⟩ := h
  exact ⟨γ, c4, n, h1, h2.cgm ep (fun i _ i2 => ei i i2) (f.sm c.2.1 hO).2.2.2 (f.sm c.2.2 hP).2.2.2, by rw [ep]; exact h3, h4⟩
/-- is there a text p, what it counts, what exploring it comes to -/
def Itm (i9 : tI9) (M : mM) (t p O P : Nat) : Prop := mI M t 6 = i9.1 ∧ (mI M t 6 ≠ 0 → mI M p 3 = i9.2.1 ∧ mI M p 7 = i9.2.2.1 ∧ mI M p 12 = i9.2.2.2.1 ∧ Pgm i9.2.2.2.2.1 M p O P)
theorem Itm.fc {i9 : tI9} (h : Itm i9 M t p O P) (f : FC Z M M') (pk : PK M z p O P K) (e6 : mI M' t 6 = mI M t 6) (hs : ∀ i, i ≤ 15 → ¬ Z (p + i)) (hO : ¬ Z O) (hP : ¬ Z P) : Itm i9 M' t p O P := by
  have b := pk.2.2.2.1.2.2.2
  have c := pk.2.2.2.2.1
  have ep : mI M' p = mI M p := (f.sm (show p + 0 < mZ M by omega) (hs 0 (by decide))).2.2.2
  obtain ⟨h1, h2⟩ := h
  refine ⟨by rw [e6]; exact h1, fun u => ?_⟩
  rw [e6] at u
  obtain ⟨a1, a2, a3, a4⟩ := h2 u
  rw [ep]
  exact ⟨a1, a2, a3, a4.fc f pk hs hO hP⟩
theorem PK.lt (h : PK M z p O P K) : p < mZ M := by
  have a := h.2.2.2.1.2.2.2
  have b := h.2.2.2.2.1.1
  omega
/-- the text's side: tape, words, reader, programs -/
def Tx (c9 : tG9) (t T Kt N A B D Cw p O P K p' O' P' K' Ab Be Cm : Nat) (M : mM) : Prop := (mR M t 2 = t + 2 ∧ mR M t 3 = t + 7 ∧ mR M t 4 = p ∧ mR M t 5 = p') ∧ Tap c9.1 M t T Kt N ∧ WB M (t + 2) A B D Cw ∧ TZ M (t + 236) (t + 7) p' O' P' K' Ab Be Cm ∧ PK M (t + 236) p O P K ∧ ((p = t + 30 ∧ p' = t + 46) ∨ (p = t + 46 ∧ p' = t + 30)) ∧ (mI M t 6 ≠ 0 → ∃ (V F : Nat) (ns : Nat → Int) (sf ef : Nat → Nat) (L cnt : Nat), PW M (t + 236) p O P K V F ns sf ef L cnt) ∧ Itm c9.2 M t p O P
theorem Tx.fc {c9 : tG9} (h : Tx c9 t T Kt N A B D Cw p O P K p' O' P' K' Ab Be Cm M) (o : mOk M') (f : FC Z M M') (hz : ∀ x, t + 2 ≤ x → x < t + 62 → ¬ Z x) (nT : ¬ Z T) (nO : ¬ Z O) (nP : ¬ Z P) (hr : ∀ i, i ≤ 5 → mR M' t i = mR M t i) (i1 : mI M' t 1 = mI M t 1) (i6 : mI M' t 6 = mI M t 6) : Tx c9 t T Kt N A B D Cw p O P K p' O' P' K' Ab Be Cm M' := by
  obtain ⟨h1, h2, h3, h4, h5, h6, h7, h8⟩ := h
  refine ⟨by rw [hr 2 (by decide), hr 3 (by decide), hr 4 (by decide), hr 5 (by decide)]; exact h1, h2.fc f nT (hr 0 (by decide)) i1, h3.fc f (hz _ (by omega) (by omega)), h4.fc o f (fun x a b => hz x (by omega) (by omega)) (hz _ (by omega) (by omega)), h5.fc f (hz _ (by omega) (by omega)), h6, fun u => ?_, h8.fc f h5 i6 (fun i hi => hz _ (by omega) (by omega)) nO nP⟩
  rw [i6] at u
  obtain ⟨V, F, ns, sf, ef, L, cnt, hw⟩ := h7 u
  exact ⟨V, F, ns, sf, ef, L, cnt, hw.fc f (fun i hi => hz _ (by omega) (by omega)) nO nP⟩
/-- an empty game has nothing; a state has at most 60 commands -/
def GG0 (M : mM) (g cn cc bc : Nat) : Prop := (cn = 0 → cc = 0 ∧ bc = 0) ∧ ∀ j, j < cn → mI M (g + 4) (j + 1) ≤ mI M (g + 4) j + 60
/-- the game's side -/
def Gm (t U Ag Bg Cg cn cc bc n : Nat) (M : mM) : Prop := GK M (t + 62) ∧ MK M (t + 236) (t + 72) U Ag Bg Cg ∧ (U = t + 63 ∨ U = t + 73) ∧ (∀ x, x < 60 → mI M (t + 77) x ≤ mI M (t + 72) 9) ∧ (0 ≤ mI M (t + 72) 9 ∧ mI M (t + 72) 9 ≤ 512 * (n : Int)) ∧ GR M (t + 62) cn cc bc ∧ (1 ≤ cn → GS M (t + 62) (cn - 1)) ∧ GG0 M (t + 62) cn cc bc
theorem GR.eq {g : Nat} (h : GR M g cn cc bc) (e : ∀ i, i ≤ 9 ∨ (20 ≤ i ∧ i ≤ 22) → mI M' (g + i) = mI M (g + i)) : GR M' g cn cc bc := by
  rcases h with ⟨a, b⟩ | ⟨a, b⟩
  · have e0 := e 0 (by omega)
    rw [Nat.add_zero] at e0
    exact Or.inl ⟨a, by rw [e0]; exact b⟩
  · exact Or.inr ⟨a, b.eq e⟩
theorem Gm.fc (h : Gm t U Ag Bg Cg cn cc bc n M) (f : FC Z M M') (hz : ∀ x, t + 62 ≤ x → x < t + 85 → ¬ Z x) : Gm t U Ag Bg Cg cn cc bc n M' := by
  obtain ⟨h1, h2, h3, h4, h5, h6, h7, h8⟩ := h
  have z0 := h2.2.2.2.2.2.2.1.1
  have sm : ∀ i, i ≤ 22 → Sm M M' (t + 62 + i) := fun i hi => f.sm (by omega) (hz _ (by omega) (by omega))
  have s0 := sm 0 (by decide)
  rw [Nat.add_zero] at s0
  have e : ∀ i, i ≤ 9 ∨ (20 ≤ i ∧ i ≤ 22) → mI M' (t + 62 + i) = mI M (t + 62 + i) := fun i hi => (sm i (by omega)).2.2.2
  have e77 : mI M' (t + 77) = mI M (t + 77) := (sm 15 (by decide)).2.2.2
  have e72 : mI M' (t + 72) = mI M (t + 72) := (sm 10 (by decide)).2.2.2
  exact ⟨h1.eq2 (fun i hi => ⟨(sm i hi).1, (sm i hi).2.1⟩) (fun i _ => by rw [s0.2.2.1]), h2.fc f (hz _ (by omega) (by omega)), h3, by rw [e77, e72]; exact h4, by rw [e72]; exact h5, h6.eq e, fun u => (h7 u).eq e, h8.1, fun j hj => by rw [e 4 (by omega)]; exact h8.2 j hj⟩
theorem Gm.up (h : Gm t U Ag Bg Cg cn cc bc n M) : Gm t U Ag Bg Cg cn cc bc (n + 1) M := by
  obtain ⟨h1, h2, h3, h4, h5, h6⟩ := h
  exact ⟨h1, h2, h3, h4, ⟨h5.1, by have := h5.2; omega⟩, h6⟩
theorem GK.gk9 {g : Nat} (h : GK M g) : GK9 M g ∧ (mR M g 3 = g + 3 ∧ mN M (g + 3) = 512) := by
  obtain ⟨h1, ⟨-, r2, r3, r4, -, r6, r7, r8, r9, -⟩, ⟨k1, k2, k3, k4, k5, k6, k7, k8, k9, -⟩, ⟨-, n2, n3, n4, -, n6, n7, n8, n9, -⟩⟩ := h
  refine ⟨⟨h1, ⟨r2, r4, r6, r7, r8, r9⟩, fun i i1 i2 => ?_, ⟨n2, n4, n6, n7, n8, n9⟩⟩, r3, n3⟩
  have : i = 1 ∨ i = 2 ∨ i = 3 ∨ i = 4 ∨ i = 5 ∨ i = 6 ∨ i = 7 ∨ i = 8 ∨ i = 9 := by omega
  rcases this with e | e | e | e | e | e | e | e | e <;> subst e <;> assumption
theorem GR.gtt {g : Nat} (h : GR M g cn cc bc) (h0 : GG0 M g cn cc bc) : GTT M g cn cc bc := by
  rcases h with ⟨a, b⟩ | ⟨a, ⟨q1, q2, -⟩, -, -, t1, t2, t3, -, -, t6, -⟩
  · obtain ⟨c1, c2⟩ := h0.1 a
    subst a c1 c2
    exact ⟨⟨by omega, by omega, by omega⟩, fun c hc => absurd hc (by omega), fun j hj => absurd hj (by omega), b⟩
  · refine ⟨⟨q2, t1, t2⟩, t3, fun j hj => ?_, q1⟩
    obtain ⟨x, y, f1, f2, f3, f4⟩ := t6 j (by omega)
    have f5 := h0.2 j hj
    rw [f1, f2] at f5
    exact ⟨x, y, f1, f2, f3, f4, by omega⟩
/-- how many limbs a number may want -/
def Wt (t x : Nat) : Nat := if x < t + 236 then 300 else 17
theorem wt_r : ∀ x, t + 236 ≤ x → 17 ≤ Wt t x ∧ Wt t x ≤ 20000 := fun x hx => by unfold Wt; rw [if_neg (by omega)]; decide
theorem wt_s : ∀ x, t + 85 ≤ x → x ≤ t + 85 + 134 → 300 ≤ Wt t x := fun x _ hx => by unfold Wt; rw [if_pos (by omega)]; decide
/-- the numbers' side: Z its cells -/
def Ns (Z : Nat → Prop) (t : Nat) (Ls : List Nat) (v R k : Nat → Nat) (cn cc bc : Nat) (M : mM) : Prop := Nms Ls (Wt t) (t + 85) (t + 62) (t + 236) cn cc bc v R k M ∧ Cnu Z Ls (t + 85) v R k M ∧ Tr t v M ∧ mI M (v 2) 1 = 0 ∧ (mI M (v 0) 1 ≠ 0 → Chs M (t + 85) (t + 62) cn) ∧ (t + 228 ∈ Ls ∧ FrL Ls M (t + 230) ∧ Z (t + 230)) ∧ (mK M (t + 235) = 32 ∧ mN M (t + 235) = 400 ∧ Pch M (t + 235)) ∧ ∃ c : Nat, mI M t 18 = ((c : Nat) : Int) ∧ c ≤ 400
theorem Tr.cg (h : Tr t v M) (hk : mK M' t = mK M t) (hr : ∀ i, 9 ≤ i → mR M' t i = mR M t i) (hz : mZ M ≤ mZ M') : Tr t v M' := by
  obtain ⟨h1, h2, h3, h4, h5⟩ := h
  exact ⟨by rw [hk]; exact h1, by rw [hr 9 (by decide), hr 10 (by decide)]; exact h2, by rw [hr 11 (by decide), hr 12 (by decide), hr 13 (by decide), hr 14 (by decide)]; exact h3, by rw [hr 15 (by decide), hr 16 (by decide), hr 17 (by decide)]; exact h4, by omega⟩
theorem Ns.fc (h : Ns Z t Ls v R k cn cc bc M) (o : mOk M') (f : FC Y M M') (hY : ∀ x, Y x → ¬ Z x) (hg : ∀ i, i ≤ 9 → ¬ Y (t + 62 + i)) (hp : ¬ Y (t + 235)) (zp : t + 235 < mZ M) (hr : ∀ i, 9 ≤ i → mR M' t i = mR M t i) (i18 : mI M' t 18 = mI M t 18) : Ns Z t Ls v R k cn cc bc M' ∧ (Pn Ls k M' = Pn Ls k M ∧ Qn Ls k M' = Qn Ls k M) := by
  obtain ⟨h1, h2, h3, h4, h5, ⟨h6, h6', h6z⟩, h7, h8⟩ := h
  have nz : ∀ x, Z x → ¬ Y x := fun x a b => hY x b a
  obtain ⟨N, ks, cps⟩ := h1.off f o (fun x u => nz x (zm_in h2 x u)) hg
  have vI : ∀ i, i < 4 → mI M' (v i) = mI M (v i) := fun i hi => (f.sm (h1.2.1.1 i hi).1.2.2.2.2.1.1.1 (nz _ (h2.2.2.1 i hi).1)).2.2.2
  have sp := f.sm zp hp
  have s30 := f.sm (h1.1.2.2.1 (t + 85 + 30) st30).1 (nz _ (h2.1 _ (by omega) (by omega)))
  have g4 := f.sm (h1.1.2.2.2 4 (by decide)).1 (hg 4 (by decide))
  refine ⟨⟨N, ks.cnu f h2, h3.cg (f.2 t h3.2.2.2.2).1 hr f.1.1, by rw [vI 2 (by decide)]; exact h4, fun u => ?_, ⟨h6, h6'.sm (f.sm h6'.1.2.2 (nz _ h6z)) f.1.1, h6z⟩, by unfold Pch; rw [sp.1, sp.2.1, sp.2.2.2]; exact h7, by rw [i18]; exact h8⟩, pn_cg cps⟩
  rw [vI 0 (by decide)] at u
  exact chs_same (h5 u) s30.2.2.2 g4.2.2.2
end NCU
end
section
/-! The class keeps what was explored. -/
section XCD
variable {t g V : Nat} {M M' : mM} {i9 : tI9} {Nn : tP9}
/-- the place, the state and the tables of the states are the same, and whether values are worked out -/
def knF (M M' : mM) (t : Nat) : Prop := mI M' (mR M' t 11) 1 = mI M (mR M t 11) 1
def xcF (M M' : mM) (t : Nat) : Prop := mI M' t 7 = mI M t 7 ∧ mI M' t 8 = mI M t 8 ∧ (∀ i, i ≤ 9 → i ≠ 3 → mI M' (t + 62 + i) = mI M (t + 62 + i)) ∧ knF M M' t
/-- and the tape is as long as it was -/
def sE (M M' : mM) (t : Nat) : Prop := mI M' t 1 = mI M t 1 ∧ xcF M M' t
theorem sE.refl : sE M M t := ⟨rfl, rfl, rfl, fun _ _ _ => rfl, rfl⟩
/-- the same, but for the values -/
def sE0 (M M' : mM) (t : Nat) : Prop := mI M' t 1 = mI M t 1 ∧ mI M' t 7 = mI M t 7 ∧ mI M' t 8 = mI M t 8 ∧ ∀ i, i ≤ 9 → i ≠ 3 → mI M' (t + 62 + i) = mI M (t + 62 + i)
theorem sE0.kn (h : sE0 M M' t) (k : knF M M' t) : sE M M' t := ⟨h.1, h.2.1, h.2.2.1, h.2.2.2, k⟩
theorem xcF.trans {M2 : mM} (h : xcF M M' t) (k : xcF M' M2 t) : xcF M M2 t := ⟨k.1.trans h.1, k.2.1.trans h.2.1, fun i a b => (k.2.2.1 i a b).trans (h.2.2.1 i a b), k.2.2.2.trans h.2.2.2⟩
theorem brl_eq (e8 : mI M' (g + 8) = mI M (g + 8)) (e9 : mI M' (g + 9) = mI M (g + 9)) {a : Nat} : ∀ m, brl M' g a m = brl M g a m
  | 0 => rfl
  | m + 1 => by
    show brl M' g a m ++ [((mI M' (g + 8) (a + m)).toNat, mI M' (g + 9) (a + m))] = brl M g a m ++ [((mI M (g + 8) (a + m)).toNat, mI M (g + 9) (a + m))]
    rw [brl_eq e8 e9 m, e8, e9]
theorem cmmE (e : ∀ i, i ≤ 9 → i ≠ 3 → mI M' (g + i) = mI M (g + i)) (c : Nat) : cmm M' g c = cmm M g c := by
  unfold cmm
  rw [e 5 (by decide) (by decide), e 6 (by decide) (by decide), e 7 (by decide) (by decide), brl_eq (e 8 (by decide) (by decide)) (e 9 (by decide) (by decide))]
theorem xtmE (e : ∀ i, i ≤ 9 → i ≠ 3 → mI M' (g + i) = mI M (g + i)) : ∀ n, xtm M' g n = xtm M g n
  | 0 => rfl
  | n + 1 => by
    show xtm M' g n ++ [stm M' g n] = xtm M g n ++ [stm M g n]
    rw [xtmE e n]
    unfold stm
    rw [e 2 (by decide) (by decide), e 4 (by decide) (by decide), cml_cg (M' := M') (M := M) _ (fun c _ _ => cmmE e c)]
/-- the latest fault's place, explore's state, and what was explored -/
def XC (i9 : tI9) (M : mM) (t : Nat) : Prop := mI M t 7 = i9.2.2.2.2.2.1.1 ∧ (mI M t 8 = i9.2.2.2.2.2.1.2.1 ∧ mI M (mR M t 11) 1 = i9.2.2.2.2.2.1.2.2) ∧ mI M (t + 62) 0 = ((i9.2.2.2.2.2.2.1.length : Nat) : Int) ∧ (i9.2.2.2.2.2.2.1 = [] → i9.2.2.2.2.2.2.2 = []) ∧ (i9.2.2.2.2.2.2.1 ≠ [] → ∃ V : Nat, (V : Int) = i9.2.1 ∧ Sm9 M (t + 62) V i9.2.2.2.2.2.2.1.length = i9.2.2.2.2.2.2.1 ∧ xtm M (t + 62) i9.2.2.2.2.2.2.1.length = i9.2.2.2.2.2.2.2)
theorem XC.tb {S : List (List Int)} {T : xt9} {n : Nat} (h : ∃ V : Nat, (V : Int) = i9.2.1 ∧ Sm9 M (t + 62) V n = S ∧ xtm M (t + 62) n = T) (k : ∀ i, i ≤ 9 → i ≠ 3 → mI M' (t + 62 + i) = mI M (t + 62 + i)) : ∃ V : Nat, (V : Int) = i9.2.1 ∧ Sm9 M' (t + 62) V n = S ∧ xtm M' (t + 62) n = T := by
  obtain ⟨V, h1, h2, h3⟩ := h
  refine ⟨V, h1, ?_, by rw [xtmE k]; exact h3⟩
  unfold Sm9 lsm at h2 ⊢
  rw [k 1 (by decide) (by decide)]
  exact h2
theorem XC.xc (h : XC i9 M t) (k : xcF M M' t) : XC i9 M' t := by
  obtain ⟨h1, h2, h3, h4, h5⟩ := h
  exact ⟨by rw [k.1]; exact h1, ⟨by rw [k.2.1]; exact h2.1, k.2.2.2.trans h2.2⟩, by have := k.2.2.1 0 (by decide) (by decide); rw [Nat.add_zero] at this; rw [this]; exact h3, h4, fun u => XC.tb (h5 u) k.2.2.1⟩
/-- the tape's length, and what was explored -/
def tE (Nn : tP9) (M : mM) (t : Nat) : Prop := mI M t 1 = Nn.1 ∧ XC Nn.2.2 M t
theorem sE.trans (h : sE M M' t) (k : tE Nn M t) : tE Nn M' t := ⟨h.1.trans k.1, k.2.xc h.2⟩
theorem sE.mi (e : mI M' = mI M) (er : mR M' = mR M) : sE M M' t := by
  unfold sE xcF knF
  rw [e, er]
  exact ⟨rfl, rfl, rfl, fun _ _ _ => rfl, rfl⟩
/-- solving: are values worked out -/
theorem XC.kn {k : Int} (h : XC i9 M t) (e : sE0 M M' t) (hk : mI M' (mR M' t 11) 1 = k) : XC (kn9 i9 k) M' t := by
  obtain ⟨h1, h2, h3, h4, h5⟩ := h
  exact ⟨by rw [e.2.1]; exact h1, ⟨by rw [e.2.2.1]; exact h2.1, hk⟩, by have := e.2.2.2 0 (by decide) (by decide); rw [Nat.add_zero] at this; rw [this]; exact h3, h4, fun u => XC.tb (h5 u) e.2.2.2⟩
end XCD
end
section
/-! The class at rest. -/
section NCV
variable {G : mG} {d t x n cn cc bc T Kt N A B D Cw p O P K p' O' P' K' Ab Be Cm U Ag Bg Cg Ps Pc : Nat} {M M' M1 : mM} {Z Y C : Nat → Prop} {v R k : Nat → Nat} {Ls : List Nat} {c9 c8 : tG9}
/-- its cells lie apart: Z the numbers' cells, C all -/
def Ap (Z C : Nat → Prop) (t T A B D O P O' P' Ab Be Ag Bg : Nat) (M : mM) : Prop := (∀ x, (t ≤ x ∧ x < t + 85) ∨ x = t + 235 ∨ x ∈ [T, A, B, D, O, P, O', P', Ab, Be, Ag, Bg] → ¬ Z x) ∧ [T, A, B, D, O, P, O', P', Ab, Be, Ag, Bg].Nodup ∧ ((T = t + 1 ∨ t + 236 ≤ T) ∧ (A = t + 4 ∨ t + 236 ≤ A) ∧ (B = t + 5 ∨ t + 236 ≤ B) ∧ (D = t + 6 ∨ t + 236 ≤ D)) ∧ (∀ x, (t ≤ x ∧ x < t + 236) ∨ Z x ∨ x ∈ [T, A, B, D, O, P, O', P', Ab, Be, Ag, Bg] → C x) ∧ (∀ x, C x → x < mZ M)
/-- the room that it has taken -/
def Rmc (Kt Cw K K' Cm Cg Ps Pc : Nat) (Ls : List Nat) (k : Nat → Nat) (M : mM) : Prop := Ps = 2 * Kt + 6 * Cw + 4 * K + 4 * K' + 4 * Cm + 4 * Cg + Pn Ls k M ∧ Pc = 4 * Kt + 2 * Cw + K + K' + 2 * Cm + 2 * Cg + 64 * Qn Ls k M ∧ Ls.length ≤ 59 + 2 * (k 0 + k 1 + k 2 + k 3)
def CJ (c9 : tG9) (C : Nat → Prop) (n t Ps Pc T Kt N A B D Cw p O P K p' O' P' K' Ab Be Cm U Ag Bg Cg cn cc bc : Nat) (Ls : List Nat) (v R k : Nat → Nat) (Z : Nat → Prop) (M : mM) : Prop := mOk M ∧ Tx c9 t T Kt N A B D Cw p O P K p' O' P' K' Ab Be Cm M ∧ Gm t U Ag Bg Cg cn cc bc n M ∧ Ns Z t Ls v R k cn cc bc M ∧ Ap Z C t T A B D O P O' P' Ab Be Ag Bg M ∧ Rmc Kt Cw K K' Cm Cg Ps Pc Ls k M ∧ (1 ≤ cn → mI M t 6 ≠ 0)
/-- the class between two calls: n calls so far, C its cells, Ps and Pc its room -/
def CI (c9 : tG9) (C : Nat → Prop) (n t Ps Pc : Nat) (M : mM) : Prop := ∃ (T Kt N A B D Cw p O P K p' O' P' K' Ab Be Cm U Ag Bg Cg cn cc bc : Nat) (Ls : List Nat) (v R k : Nat → Nat) (Z : Nat → Prop), CJ c9 C n t Ps Pc T Kt N A B D Cw p O P K p' O' P' K' Ab Be Cm U Ag Bg Cg cn cc bc Ls v R k Z M
/-- what a call leaves behind -/
def cQ0 (c9 : tG9) (C : Nat → Prop) (n t Ps Pc : Nat) (M M' : mM) : Prop := ∃ (C' : Nat → Prop) (Ps' Pc' : Nat), CI c9 C' (n + 1) t Ps' Pc' M' ∧ FC C M M' ∧ (∀ x, C' x → C x ∨ (mZ M ≤ x ∧ x < mZ M')) ∧ mS M' + Ps ≤ mS M + Ps' ∧ 64 * mZ M' + Pc ≤ 64 * mZ M + Pc'
def cQ (c9 : tG9) (C : Nat → Prop) (n t Ps Pc : Nat) (M M' : mM) : Prop := cQ0 c9 C n t Ps Pc M M' ∧ sE M M' t
/-- the table of values is not among what a step may change -/
theorem CJ.knf (h : CJ c9 C n t Ps Pc T Kt N A B D Cw p O P K p' O' P' K' Ab Be Cm U Ag Bg Cg cn cc bc Ls v R k Z M) (r : mR M' t 11 = mR M t 11) (e : mI M' (v 0) 1 = mI M (v 0) 1) : knF M M' t := by
  unfold knF
  rw [r, h.2.2.2.1.2.2.1.2.2.1.1]
  exact e
theorem CJ.vz (h : CJ c9 C n t Ps Pc T Kt N A B D Cw p O P K p' O' P' K' Ab Be Cm U Ag Bg Cg cn cc bc Ls v R k Z M) : Z (v 0) := (h.2.2.2.1.2.1.2.2.1 0 (by decide)).1
theorem CJ.vfc (h : CJ c9 C n t Ps Pc T Kt N A B D Cw p O P K p' O' P' K' Ab Be Cm U Ag Bg Cg cn cc bc Ls v R k Z M) (f : FC Y M M') (hy : ∀ x, Y x → ¬ Z x) : mI M' (v 0) = mI M (v 0) := (f.sm (h.2.2.2.2.1.2.2.2.2 _ (h.2.2.2.2.1.2.2.2.1 _ (Or.inr (Or.inl h.vz)))) (fun u => hy _ u h.vz)).2.2.2
theorem CJ.up (h : CJ c9 C n t Ps Pc T Kt N A B D Cw p O P K p' O' P' K' Ab Be Cm U Ag Bg Cg cn cc bc Ls v R k Z M) : CJ c9 C (n + 1) t Ps Pc T Kt N A B D Cw p O P K p' O' P' K' Ab Be Cm U Ag Bg Cg cn cc bc Ls v R k Z M := ⟨h.1, h.2.1, h.2.2.1.up, h.2.2.2⟩
theorem CI.same (h : CI c9 C n t Ps Pc M) : cQ c9 C n t Ps Pc M M := by
  obtain ⟨T, Kt, N, A, B, D, Cw, p, O, P, K, p', O', P', K', Ab, Be, Cm, U, Ag, Bg, Cg, cn, cc, bc, Ls, v, R, k, Z, h⟩ := h
  exact ⟨⟨C, Ps, Pc, ⟨T, Kt, N, A, B, D, Cw, p, O, P, K, p', O', P', K', Ab, Be, Cm, U, Ag, Bg, Cg, cn, cc, bc, Ls, v, R, k, Z, h.up⟩, FC.refl, fun x u => Or.inl u, Nat.le_refl _, Nat.le_refl _⟩, sE.refl⟩
theorem CJ.tg (h : CJ c9 C n t Ps Pc T Kt N A B D Cw p O P K p' O' P' K' Ab Be Cm U Ag Bg Cg cn cc bc Ls v R k Z M) : Tg M t (t + 62) cn cc bc := ⟨h.1, ⟨h.2.2.2.1.2.2.1.1, h.2.2.2.1.2.2.1.2.1.1⟩, h.2.2.1.1, h.2.2.1.2.2.2.2.2.1⟩
theorem CI.tg (h : CI c9 C n t Ps Pc M) : ∃ cn cc bc, Tg M t (t + 62) cn cc bc := by
  obtain ⟨T, Kt, N, A, B, D, Cw, p, O, P, K, p', O', P', K', Ab, Be, Cm, U, Ag, Bg, Cg, cn, cc, bc, Ls, v, R, k, Z, h⟩ := h
  exact ⟨cn, cc, bc, h.tg⟩
/-- an answer, and nothing has changed -/
theorem CI.rd {r : Int} (h : CI c9 C n t Ps Pc M) (q : M' = M ∧ i32 r) : i32 r ∧ cQ c9 C n t Ps Pc M M' := by
  rw [q.1]
  exact ⟨q.2, h.same⟩
theorem c_CA_place (h : CI c9 C n t Ps Pc M) : Ci G y_CA_place d [vr t] M (fun r M' => i32 r ∧ cQ c9 C n t Ps Pc M M' ∧ r = mI M t 7) := by
  obtain ⟨cn, cc, bc, q⟩ := h.tg
  exact (s_CA_place q).mono (fun r M' e => ⟨(h.rd ⟨e.1, e.2.1⟩).1, (h.rd ⟨e.1, e.2.1⟩).2, e.2.2⟩)
theorem c_CA_state (h : CI c9 C n t Ps Pc M) : Ci G y_CA_state d [vr t] M (fun r M' => i32 r ∧ cQ c9 C n t Ps Pc M M' ∧ r = mI M t 8) := by
  obtain ⟨cn, cc, bc, q⟩ := h.tg
  exact (s_CA_state q).mono (fun r M' e => ⟨(h.rd ⟨e.1, e.2.1⟩).1, (h.rd ⟨e.1, e.2.1⟩).2, e.2.2⟩)
theorem c_CA_states (h : CI c9 C n t Ps Pc M) : Ci G y_CA_states d [vr t] M (fun r M' => i32 r ∧ cQ c9 C n t Ps Pc M M' ∧ r = mI M (t + 62) 0) := by
  obtain ⟨cn, cc, bc, q⟩ := h.tg
  have c5 := q.2.2.2.cnt.2
  have c0 := q.2.2.2.cnt.1
  refine (s_CA_states q).mono (fun r M' e => ?_)
  have k := h.rd (r := r) ⟨e.1, by rw [e.2]; exact i32s (by omega) (by omega)⟩
  exact ⟨k.1, k.2, by rw [c0]; exact e.2⟩
theorem c_CA_next {l1 l2 : Int} (i1 : i32 l1) (i2 : i32 l2) (h : CI c9 C n t Ps Pc M) : Ci G y_CA_next (d + 2) [vr t, vi l1, vi l2] M (fun r M' => i32 r ∧ cQ c9 C n t Ps Pc M M') := by
  obtain ⟨cn, cc, bc, q⟩ := h.tg
  exact (s_CA_next i1 i2 q).mono (fun r M' e => h.rd e)
theorem c_CA_items {l : Int} (il : i32 l) (h : CI c9 C n t Ps Pc M) : Ci G y_CA_items d [vr t, vi l] M (fun r M' => i32 r ∧ cQ c9 C n t Ps Pc M M' ∧ r = itq c9.2 l) := by
  obtain ⟨T, Kt, N, A, B, D, Cw, p, O, P, K, p', O', P', K', Ab, Be, Cm, U, Ag, Bg, Cg, cn, cc, bc, Ls, v, R, k, Z, j⟩ := id h
  refine (s_CA_items il j.tg ⟨j.2.1.1.2.2.1, j.2.1.2.2.2.2.1.1⟩).mono (fun r M' e => ⟨(h.rd e.1).1, (h.rd e.1).2, ?_⟩)
  obtain ⟨i1, i2⟩ := j.2.1.2.2.2.2.2.2.2
  have e2 := e.2
  unfold itq
  by_cases z : mI M t 6 = 0
  · rw [e2, if_pos z, ← i1, if_pos z]
  · obtain ⟨y1, y2, y3, -⟩ := i2 z
    rw [e2, if_neg z, ← i1, if_neg z, y1, y2, y3]
theorem c_CA_choice {l : Int} (il : i32 l) (h : CI c9 C n t Ps Pc M) : Ci G y_CA_choice (d + 1) [vr t, vi l] M (fun r M' => i32 r ∧ cQ c9 C n t Ps Pc M M') := by
  obtain ⟨T, Kt, N, A, B, D, Cw, p, O, P, K, p', O', P', K', Ab, Be, Cm, U, Ag, Bg, Cg, cn, cc, bc, Ls, v, R, k, Z, j⟩ := id h
  have jn := j.2.2.2.1
  exact (s_CA_choice il j.tg jn.2.2.1.2.1.2 jn.1.1.1.2.1 ⟨jn.2.2.1.2.2.1.1, (jn.1.2.1.1 0 (by decide)).1.1⟩).mono (fun r M' e => h.rd e)
theorem c_CA_rank {l : Int} (il : i32 l) (h : CI c9 C n t Ps Pc M) : Ci G y_CA_rank (d + 1) [vr t, vi l] M (fun r M' => i32 r ∧ cQ c9 C n t Ps Pc M M') := by
  obtain ⟨T, Kt, N, A, B, D, Cw, p, O, P, K, p', O', P', K', Ab, Be, Cm, U, Ag, Bg, Cg, cn, cc, bc, Ls, v, R, k, Z, j⟩ := id h
  have jn := j.2.2.2.1
  exact (s_CA_rank il j.tg jn.2.2.1.2.1.2 jn.1.1.1.2.1 ⟨jn.2.2.1.2.2.1.1, (jn.1.2.1.1 0 (by decide)).1.1⟩).mono (fun r M' e => h.rd e)
theorem c_CA_character {l : Int} (il : i32 l) (h : CI c9 C n t Ps Pc M) : Ci G y_CA_character d [vr t, vi l] M (fun r M' => i32 r ∧ cQ c9 C n t Ps Pc M M') := by
  obtain ⟨T, Kt, N, A, B, D, Cw, p, O, P, K, p', O', P', K', Ab, Be, Cm, U, Ag, Bg, Cg, cn, cc, bc, Ls, v, R, k, Z, j⟩ := id h
  obtain ⟨n1, n2, n3, n4, n5, n6, n7, c, e18, c4⟩ := j.2.2.2.1
  exact (s_CA_character il j.1 n3.1 n3.2.2.2.1.2.2 ⟨n7.1, n7.2.1⟩ e18 c4).mono (fun r M' e => h.rd e)
end NCV
end
section
/-! The class answers the questions about the states as the tables say. -/
section CAS
variable {G : mG} {d t n Ps Pc g cn cc bc : Nat} {M M' : mM} {C : Nat → Prop} {c9 : tG9} {i9 : tI9}
theorem XC.st (h : XC i9 M t) (l : Int) : stA9 i9.2.2.2.2.2.2.2 l = if 0 ≤ l ∧ l < mI M (t + 62) 0 then some (stm M (t + 62) l.toNat) else none := by
  obtain ⟨-, -, h3, h4, h5⟩ := h
  unfold stA9
  by_cases y : l < 0
  · rw [if_pos y, if_neg (by omega)]
  rw [if_neg y]
  by_cases z : i9.2.2.2.2.2.2.1 = []
  · rw [h4 z, if_neg (by rw [h3, z]; show ¬ (0 ≤ l ∧ l < ((0 : Nat) : Int)); omega)]
    all_goals rfl
  · obtain ⟨V, -, -, hT⟩ := h5 z
    rw [← hT, xtm_map, rget]
    by_cases u : 0 ≤ l ∧ l < mI M (t + 62) 0
    · rw [if_pos u, if_pos (by omega)]
    · rw [if_neg u, if_neg (by omega)]
/-- the commands of a state -/
theorem GR.row (hr : GR M g cn cc bc) {l : Int} (hl : 0 ≤ l ∧ l < cn) : ∃ a b : Nat, mI M (g + 4) l.toNat = ((a : Nat) : Int) ∧ mI M (g + 4) (l + 1).toNat = ((b : Nat) : Int) ∧ mI M (g + 4) (l.toNat + 1) = ((b : Nat) : Int) ∧ a ≤ b ∧ b ≤ cc ∧ cc ≤ 4096 ∧ 1 ≤ cn ∧ cn ≤ 512 := by
  rcases hr with ⟨e1, -⟩ | ⟨c1, q⟩
  · omega
  · obtain ⟨⟨-, q2, -⟩, -, -, t1, t2, -, -, -, t6, -⟩ := q
    obtain ⟨x, y', f1, f2, f3, f4⟩ := t6 l.toNat (by omega)
    exact ⟨x, y', f1, by rw [show (l + 1).toNat = l.toNat + 1 by first | rfl | omega]; exact f2, f2, f3, f4, by omega, c1, q2⟩
theorem e_CA_kind {l : Int} (il : i32 l) (h : CI c9 C n t Ps Pc M) (hx : XC c9.2 M t) : Ci G y_CA_kind (d + 1) [vr t, vi l] M (fun r M' => i32 r ∧ cQ c9 C n t Ps Pc M M' ∧ r = kdA9 c9.2.2.2.2.2.2.2.2 l) := by
  obtain ⟨cn, cc, bc, h1, ⟨h2, h3⟩, h4, h5⟩ := h.tg
  have hc := h5.cnt
  obtain ⟨g0, ⟨-, g2, -⟩, ⟨-, k2, -⟩, ⟨-, n2, -⟩⟩ := id h4
  refine k_CA_kind h1 il ?_
  rw [h3]
  refine ⟨h2, g0, (s_Ga_hasState il h1 g0 hc.1).mono (fun x4 M3 q => ?_)⟩
  obtain ⟨e, hb, hi⟩ := q
  subst e
  rw [h3, g2, n2]
  refine ⟨m_b32 hb, h1, fun u => ?_, fun v e => ?_⟩
  · have := hi.mp u
    exact ⟨h2, g0, k2, by omega, by omega⟩
  · have iv : i32 v := by
      rw [e]
      split
      · exact ⟨by decide, by decide⟩
      · exact (h1 _ _).1
    refine ⟨iv, h.same, ?_⟩
    unfold kdA9
    rw [e, hx.st, hc.1]
    by_cases y : x4 = 0
    · rw [if_pos y, if_neg (fun z => (hi.mpr z) y)]
      all_goals rfl
    · rw [if_neg y, if_pos (hi.mp y)]
      all_goals rfl
theorem e_CA_commands {l : Int} (il : i32 l) (h : CI c9 C n t Ps Pc M) (hx : XC c9.2 M t) : Ci G y_CA_commands (d + 1) [vr t, vi l] M (fun r M' => i32 r ∧ cQ c9 C n t Ps Pc M M' ∧ r = cnA9 c9.2.2.2.2.2.2.2.2 l) := by
  obtain ⟨cn, cc, bc, h1, ⟨h2, h3⟩, h4, h5⟩ := h.tg
  have hc := h5.cnt
  obtain ⟨g0, ⟨-, -, -, g4, -⟩, ⟨-, -, -, k4, -⟩, ⟨-, -, -, n4, -⟩⟩ := id h4
  refine k_CA_commands h1 il ?_
  rw [h3]
  refine ⟨h2, g0, (s_Ga_hasState il h1 g0 hc.1).mono (fun x4 M3 q => ?_)⟩
  obtain ⟨e, hb, hi⟩ := q
  subst e
  rw [h3, g4, n4]
  refine ⟨m_b32 hb, h1, fun u => ?_, fun v e => ?_⟩
  · have := hi.mp u
    exact ⟨h2, g0, k4, by omega, by omega⟩
  · have ev : i32 v ∧ v = cnA9 c9.2.2.2.2.2.2.2.2 l := by
      unfold cnA9
      rw [e, hx.st, hc.1]
      by_cases y : x4 = 0
      · rw [if_pos y, if_neg (fun z => (hi.mpr z) y)]
        exact ⟨⟨by decide, by decide⟩, rfl⟩
      · have z := hi.mp y
        obtain ⟨a, b, f1, f2, f2', f3, f4, f5, f6, f7⟩ := h5.row z
        rw [if_neg y, if_pos z, f1, f2]
        refine ⟨i32s (by omega) (by omega), ?_⟩
        show ((b : Nat) : Int) - ((a : Nat) : Int) = (((cml M3 (t + 62) (mI M3 (t + 62 + 4) l.toNat).toNat ((mI M3 (t + 62 + 4) (l.toNat + 1)).toNat - (mI M3 (t + 62 + 4) l.toNat).toNat)).length : Nat) : Int)
        rw [cml_map, List.length_map, List.length_range, f1, f2', Int.toNat_natCast, Int.toNat_natCast]
        omega
    exact ⟨ev.1, h.same, ev.2⟩
theorem e_Ga_commandAt {l1 l2 : Int} (i1 : i32 l1) (i2 : i32 l2) (h1 : mOk M) (hk : GK M g) (hr : GR M g cn cc bc) : Ci G y_Ga_commandAt (d + 1) [vr g, vi l1, vi l2] M (fun r M' => M' = M ∧ i32 r ∧ (cmdP M g cn l1 l2 → r = mI M (g + 4) l1.toNat + l2) ∧ (¬ cmdP M g cn l1 l2 → r = -1)) := by
  obtain ⟨g0, ⟨-, -, -, g4, -⟩, ⟨-, -, -, k4, -⟩, ⟨-, -, -, n4, -⟩⟩ := id hk
  have hc := hr.cnt
  refine k_Ga_commandAt h1 i1 i2 ⟨g0, (s_Ga_hasState i1 h1 g0 hc.1).mono (fun x3 M2 q => ?_)⟩
  obtain ⟨e2, hx, hiff⟩ := q
  subst e2
  have bad : ((x3 = 0) ∨ (l2 < 0) ∨ ¬ (l2 < mI M2 (g + 4) (l1 + 1).toNat - mI M2 (g + 4) l1.toNat)) → ¬ cmdP M2 g cn l1 l2 := fun u p => by
    rcases u with u | u | u
    · exact (hiff.mpr p.1) u
    · exact absurd p.2.1 (by omega)
    · exact u p.2.2
  have row : x3 ≠ 0 → ∃ a b : Nat, mI M2 (g + 4) l1.toNat = ((a : Nat) : Int) ∧ mI M2 (g + 4) (l1 + 1).toNat = ((b : Nat) : Int) ∧ mI M2 (g + 4) (l1.toNat + 1) = ((b : Nat) : Int) ∧ a ≤ b ∧ b ≤ cc ∧ cc ≤ 4096 ∧ 1 ≤ cn ∧ cn ≤ 512 := fun y => hr.row (hiff.mp y)
  clear hr
  rw [g4, n4]
  refine ⟨m_b32 hx, h1, fun y _ => ?_, fun u => ⟨rfl, ⟨by decide, by decide⟩, fun p => absurd p (bad u), fun _ => rfl⟩, fun y => ?_⟩
  · obtain ⟨a, b, f1, f2, -, f3, f4, f5, f6, f7⟩ := row y
    have b0 := hiff.mp y
    rw [f1, f2]
    exact ⟨g0, k4, by omega, by omega, ⟨by omega, by omega⟩⟩
  · have y0 : x3 ≠ 0 := fun t => y (Or.inl t)
    have b0 := hiff.mp y0
    obtain ⟨a, b, f1, f2, -, f3, f4, f5, f6, f7⟩ := row y0
    have y1 : 0 ≤ l2 := by
      by_cases t : l2 < 0
      · exact absurd (Or.inr (Or.inl t)) y
      · omega
    have y2 : l2 < mI M2 (g + 4) (Int.toNat (l1 + 1)) - mI M2 (g + 4) (Int.toNat l1) := Classical.byContradiction (fun t => y (Or.inr (Or.inr t)))
    have yy : cmdP M2 g cn l1 l2 := ⟨b0, y1, y2⟩
    rw [f1, f2] at y2
    rw [f1]
    exact ⟨g0, k4, by omega, rfl, ⟨by omega, by omega⟩, fun _ => rfl, fun n => absurd yy n⟩
/-- where a command's numbers stand -/
theorem XC.cm (h : XC i9 M t) (hr : GR M (t + 62) cn cc bc) (l1 l2 : Int) : (¬ cmdP M (t + 62) cn l1 l2 ∧ cmA9 i9.2.2.2.2.2.2.2 l1 l2 = none) ∨ (cmdP M (t + 62) cn l1 l2 ∧ ∃ j : Nat, mI M (t + 62 + 4) l1.toNat + l2 = ((j : Nat) : Int) ∧ j < cc ∧ 1 ≤ cn ∧ cmA9 i9.2.2.2.2.2.2.2 l1 l2 = some (cmm M (t + 62) j)) := by
  have hc := hr.cnt
  have hst := h.st l1
  unfold cmA9
  rw [hst, hc.1]
  by_cases y : 0 ≤ l1 ∧ l1 < ((cn : Nat) : Int)
  · obtain ⟨a, b, f1, f2, f2', f3, f4, f5, f6, f7⟩ := hr.row y
    rw [if_pos y]
    have red : ((some (stm M (t + 62) l1.toNat)).bind (fun x => if l2 < 0 then none else x.2[l2.toNat]?)) = if l2 < 0 then none else (cml M (t + 62) (mI M (t + 62 + 4) l1.toNat).toNat ((mI M (t + 62 + 4) (l1.toNat + 1)).toNat - (mI M (t + 62 + 4) l1.toNat).toNat))[l2.toNat]? := rfl
    rw [red]
    by_cases z : l2 < 0
    · rw [if_pos z]
      exact Or.inl ⟨fun u => absurd u.2.1 (by omega), rfl⟩
    · rw [if_neg z, cml_map, rget, f1, f2', Int.toNat_natCast, Int.toNat_natCast]
      by_cases u : l2 < ((b : Nat) : Int) - ((a : Nat) : Int)
      · rw [if_pos (by omega)]
        exact Or.inr ⟨⟨y, by omega, by rw [f1, f2]; exact u⟩, a + l2.toNat, by omega, by omega, f6, rfl⟩
      · rw [if_neg (by omega)]
        exact Or.inl ⟨fun v => u (by have := v.2.2; rw [f1, f2] at this; exact this), rfl⟩
  · rw [if_neg y]
    exact Or.inl ⟨fun u => y u.1, rfl⟩
theorem e_CA_command {l1 l2 : Int} (i1 : i32 l1) (i2 : i32 l2) (h : CI c9 C n t Ps Pc M) (hx : XC c9.2 M t) : Ci G y_CA_command (d + 2) [vr t, vi l1, vi l2] M (fun r M' => i32 r ∧ cQ c9 C n t Ps Pc M M' ∧ r = caA9 c9.2.2.2.2.2.2.2.2 l1 l2) := by
  obtain ⟨cn, cc, bc, h1, ⟨h2, h3⟩, h4, h5⟩ := h.tg
  obtain ⟨g0, ⟨-, -, -, -, g5, -⟩, ⟨-, -, -, -, k5, -⟩, ⟨-, -, -, -, n5, -⟩⟩ := id h4
  refine k_CA_command h1 i1 i2 ?_
  rw [h3]
  refine ⟨h2, g0, (e_Ga_commandAt (d := d) i1 i2 h1 h4 h5).mono (fun x4 M3 q => ?_)⟩
  obtain ⟨e, ix, hi⟩ := q
  subst e
  rw [h3, g5, n5]
  unfold caA9
  rcases hx.cm h5 l1 l2 with ⟨np, ec⟩ | ⟨yp, j, ej, jc, c1, ec⟩
  · have hi := hi.2 np
    rw [ec]
    exact ⟨ix, h1, fun u => absurd hi u, fun v e => ⟨by rw [e, if_pos hi]; exact ⟨by decide, by decide⟩, h.same, by rw [e, if_pos hi]; rfl⟩⟩
  · have hi := hi.1 yp
    rw [ej] at hi
    obtain ⟨b1, b2⟩ := h5.cmd c1
    obtain ⟨x, y, mu, e1, e2, e3, e4, e5, e6, e7, e8, e9, e10, e11⟩ := b2 j jc
    have nx : ¬ (x4 = -1) := by omega
    rw [ec]
    refine ⟨ix, h1, fun _ => ⟨h2, g0, k5, by omega, by omega⟩, fun v e => ?_⟩
    rw [if_neg nx, hi, Int.toNat_natCast] at e
    refine ⟨by rw [e]; exact (h1 _ _).1, h.same, ?_⟩
    rw [e]
    show mI M3 (t + 62 + 5) j = ((cmm M3 (t + 62) j).1 : Int)
    first
      | rfl
      | (show mI M3 (t + 62 + 5) j = (((mI M3 (t + 62 + 5) j).toNat : Nat) : Int); omega)
theorem e_CA_branches {l1 l2 : Int} (i1 : i32 l1) (i2 : i32 l2) (h : CI c9 C n t Ps Pc M) (hx : XC c9.2 M t) : Ci G y_CA_branches (d + 2) [vr t, vi l1, vi l2] M (fun r M' => i32 r ∧ cQ c9 C n t Ps Pc M M' ∧ r = bnA9 c9.2.2.2.2.2.2.2.2 l1 l2) := by
  obtain ⟨cn, cc, bc, h1, ⟨h2, h3⟩, h4, h5⟩ := h.tg
  obtain ⟨g0, ⟨-, -, -, -, -, -, g7, -⟩, ⟨-, -, -, -, -, -, k7, -⟩, ⟨-, -, -, -, -, -, n7, -⟩⟩ := id h4
  refine k_CA_branches h1 i1 i2 ?_
  rw [h3]
  refine ⟨h2, g0, (e_Ga_commandAt (d := d) i1 i2 h1 h4 h5).mono (fun x4 M3 q => ?_)⟩
  obtain ⟨e, ix, hi⟩ := q
  subst e
  rw [h3, g7, n7]
  unfold bnA9
  rcases hx.cm h5 l1 l2 with ⟨np, ec⟩ | ⟨yp, j, ej, jc, c1, ec⟩
  · have hi := hi.2 np
    rw [ec]
    exact ⟨ix, h1, fun u => absurd hi u, fun v e => ⟨by rw [e, if_pos hi]; exact ⟨by decide, by decide⟩, h.same, by rw [e, if_pos hi]; rfl⟩⟩
  · have hi := hi.1 yp
    rw [ej] at hi
    obtain ⟨b1, b2⟩ := h5.cmd c1
    obtain ⟨x, y, mu, e1, e2, e3, e4, -⟩ := b2 j jc
    have nx : ¬ (x4 = -1) := by omega
    rw [ec]
    refine ⟨ix, h1, fun _ => ⟨h2, g0, k7, by omega, by omega⟩, fun v e => ?_⟩
    rw [if_neg nx, hi, show (((j : Nat) : Int) + 1).toNat = j + 1 by first | rfl | omega, Int.toNat_natCast, e1, e2] at e
    refine ⟨by rw [e]; exact i32s (by omega) (by omega), h.same, ?_⟩
    rw [e]
    show ((y : Nat) : Int) - ((x : Nat) : Int) = (((brl M3 (t + 62) (mI M3 (t + 62 + 7) j).toNat ((mI M3 (t + 62 + 7) (j + 1)).toNat - (mI M3 (t + 62 + 7) j).toNat)).length : Nat) : Int)
    rw [brl_map, List.length_map, List.length_range, e1, e2, Int.toNat_natCast, Int.toNat_natCast]
    omega
theorem e_CA_branch {l1 l2 l3 l4 : Int} (i1 : i32 l1) (i2 : i32 l2) (i3 : i32 l3) (i4 : i32 l4) (h : CI c9 C n t Ps Pc M) (hx : XC c9.2 M t) : Ci G y_CA_branch (d + 2) [vr t, vi l1, vi l2, vi l3, vi l4] M (fun r M' => i32 r ∧ cQ c9 C n t Ps Pc M M' ∧ r = brA9 c9.2.2.2.2.2.2.2.2 l1 l2 l3 l4) := by
  obtain ⟨cn, cc, bc, h1, ⟨h2, h3⟩, h4, h5⟩ := h.tg
  obtain ⟨g0, ⟨-, -, -, -, -, g6, g7, g8, g9, -⟩, ⟨-, -, -, -, -, k6, k7, k8, k9, -⟩, ⟨-, -, -, -, -, n6, n7, n8, n9, -⟩⟩ := id h4
  refine k_CA_branch h1 i1 i2 i3 i4 ?_
  rw [h3]
  refine ⟨h2, g0, (e_Ga_commandAt (d := d) i1 i2 h1 h4 h5).mono (fun x4 M3 q => ?_)⟩
  obtain ⟨e, ix, hi⟩ := q
  subst e
  have same := h.same
  rw [h3, g7, n7, g6, n6, g9, n9]
  unfold brA9
  rcases hx.cm h5 l1 l2 with ⟨np, ec⟩ | ⟨yp, j, ej, jc, c1, ec⟩
  · have hi := hi.2 np
    rw [ec]
    exact ⟨ix, h1, fun w => absurd hi w, fun _ => ⟨⟨by decide, by decide⟩, same, rfl⟩, fun w => absurd (Or.inl hi) w⟩
  have hi := hi.1 yp
  rw [ej] at hi
  obtain ⟨b1, b2⟩ := h5.cmd c1
  have hm := b2 j jc
  obtain ⟨x, y, mu, e1, e2, e3, e4, e5, e6, e7, e8, e9, -⟩ := id hm
  have nx : ¬ (x4 = -1) := by omega
  have wl : ∀ i, x ≤ i → i < y → mI M3 (t + 62 + 9) i < 1000000000 := fun i a b => by
    have := wsm_le (M := M3) (g := t + 62) (x := x) (n := y - x) (fun i a b => (e5 i a (by omega)).2.2) (y - x) (Nat.le_refl _) i a (by omega)
    rw [e9] at this
    omega
  rw [ec, hi, show (((j : Nat) : Int) + 1).toNat = j + 1 by first | rfl | omega, Int.toNat_natCast, e1, e2, e6]
  have bq : bqA9 (cmm M3 (t + 62) j) l3 = if 0 ≤ l3 ∧ l3 < ((y : Nat) : Int) - ((x : Nat) : Int) then some ((mI M3 (t + 62 + 8) (x + l3.toNat)).toNat, mI M3 (t + 62 + 9) (x + l3.toNat)) else none := by
    unfold bqA9
    by_cases z : l3 < 0
    · rw [if_pos z, if_neg (by omega)]
    · rw [if_neg z]
      show (brl M3 (t + 62) (mI M3 (t + 62 + 7) j).toNat ((mI M3 (t + 62 + 7) (j + 1)).toNat - (mI M3 (t + 62 + 7) j).toNat))[l3.toNat]? = _
      rw [brl_map, rget, e1, e2, Int.toNat_natCast, Int.toNat_natCast]
      by_cases u : l3 < ((y : Nat) : Int) - ((x : Nat) : Int)
      · rw [if_pos (by omega), if_pos ⟨by omega, u⟩]
      · rw [if_neg (by omega), if_neg (fun v => u v.2)]
  have hmu : (cmm M3 (t + 62) j).2.1 = ((mu : Nat) : Int) := e6
  have red : ((some (cmm M3 (t + 62) j)).map (fun c => ((bqA9 c l3).map (b1A9 c.2.1 l4)).getD (-1))).getD (-1) = ((bqA9 (cmm M3 (t + 62) j) l3).map (b1A9 ((mu : Nat) : Int) l4)).getD (-1) := by
    rw [← hmu]
    all_goals rfl
  rw [red, bq]
  refine ⟨by rw [← hi]; exact ix, h1, fun _ _ => ⟨h2, g0, k7, by omega, by omega, i32s (by omega) (by omega)⟩, fun w => ⟨⟨by decide, by decide⟩, same, ?_⟩, fun v => ?_⟩
  · rw [if_neg (fun u => by rcases w with w | w | w <;> omega)]
    all_goals rfl
  have v1 : 0 ≤ l3 := by
    by_cases q : l3 < 0
    · exact absurd (Or.inr (Or.inl q)) v
    · omega
  have v2 : l3 < ((y : Nat) : Int) - ((x : Nat) : Int) := Classical.byContradiction (fun q => v (Or.inr (Or.inr q)))
  have ei : Int.toNat (((x : Nat) : Int) + l3) = x + l3.toNat := by omega
  have we := e5 (x + l3.toNat) (by omega) (by omega)
  have we2 := wl (x + l3.toNat) (by omega) (by omega)
  rw [ei, if_pos ⟨v1, v2⟩]
  have red2 : ((some ((mI M3 (t + 62 + 8) (x + l3.toNat)).toNat, mI M3 (t + 62 + 9) (x + l3.toNat))).map (b1A9 ((mu : Nat) : Int) l4)).getD (-1) = b1A9 ((mu : Nat) : Int) l4 ((mI M3 (t + 62 + 8) (x + l3.toNat)).toNat, mI M3 (t + 62 + 9) (x + l3.toNat)) := rfl
  rw [red2]
  unfold b1A9
  refine ⟨h2, g0, k7, by omega, k9, by omega, k6, by omega, (x_Ma_commonDivisor (d := d + 1) ⟨by omega, by omega⟩ ⟨by omega, by omega⟩ h1).mono (fun x27 M26 q => ?_)⟩
  obtain ⟨e, ⟨f1, f2⟩, f3⟩ := q
  subst e
  rw [h3, g8, n8, g9, n9, g6, n6, e6]
  have td : ∀ z : Int, 0 ≤ z → z < 1000000000 → i32 (Int.tdiv z x27) ∧ Int.tdiv z x27 = z / x27 := fun z z0 z1 => by
    rw [Int.tdiv_eq_ediv_of_nonneg z0]
    have p1 := Int.ediv_le_self x27 z0
    have p2 : 0 ≤ z / x27 := Int.ediv_nonneg z0 (by omega)
    exact ⟨⟨by omega, by omega⟩, rfl⟩
  have i27 : i32 x27 := ⟨by omega, by omega⟩
  refine ⟨⟨by omega, by omega⟩, h1, fun u0 => ⟨h2, g0, k8, by omega, (h1 _ _).1, same, ?_⟩, fun u0 => ⟨fun u1 => ⟨h2, g0, k9, by omega, i27, by omega, (td _ (by omega) we2).1, same, ?_⟩, fun u1 => ⟨fun u2 => ⟨h2, g0, k6, by omega, i27, by omega, (td _ (by omega) (by omega)).1, same, ?_⟩, fun u2 => ⟨⟨by decide, by decide⟩, same, ?_⟩⟩⟩⟩
  · rw [if_pos u0]
    show _ = (((mI M26 (t + 62 + 8) (x + l3.toNat)).toNat : Nat) : Int)
    omega
  · rw [if_neg u0, if_pos u1, (td _ (by omega) we2).2, f3]
    all_goals rfl
  · rw [if_neg u0, if_neg u1, if_pos u2, (td ((mu : Nat) : Int) (by omega) (by omega)).2, f3]
    all_goals rfl
  · rw [if_neg u0, if_neg u1, if_neg u2]
theorem e_CA_variable {l1 l2 : Int} (i1 : i32 l1) (i2 : i32 l2) (h : CI c9 C n t Ps Pc M) (hx : XC c9.2 M t) (hl : (0 ≤ l1 ∧ l1 < mI M (t + 62) 0) ∧ (0 ≤ l2 ∧ l2 < mI M (mR M t 4) 3)) : Ci G y_CA_variable (d + 1) [vr t, vi l1, vi l2] M (fun r M' => i32 r ∧ cQ c9 C n t Ps Pc M M' ∧ r = vaA9 c9.2.2.2.2.2.2.2.1 l1 l2) := by
  have same := h.same
  obtain ⟨T, Kt, N, A, B, D, Cw, p, O, P, K, p', O', P', K', Ab, Be, Cm, U, Ag, Bg, Cg, cn, cc, bc, Ls, v, R, k, Z, j⟩ := id h
  have r4 := j.2.1.1.2.2.1
  have c0 := j.tg.2.2.2.cnt.1
  obtain ⟨l11, l12⟩ := hl
  rw [c0] at l11
  rw [r4] at l12
  have c6 := j.2.2.2.2.2.2 (by omega)
  obtain ⟨V, F, ns, sf, ef, L, cnt, hw⟩ := j.2.1.2.2.2.2.2.2.1 c6
  have i3 := (j.2.1.2.2.2.2.2.2.2.2 c6).1
  have e3 := hw.2.2.1
  have kp := hw.1.1
  rw [e3.1] at l12
  obtain ⟨h1, ⟨h2, h3⟩, h4, h5⟩ := j.tg
  have hc := h5.cnt
  obtain ⟨g0, ⟨g1, -⟩, ⟨k1, -⟩, ⟨n1, -⟩⟩ := id h4
  have sne : c9.2.2.2.2.2.2.2.1 ≠ [] := fun z => by
    have x3 := hx.2.2.1
    rw [z, c0] at x3
    have : ((cn : Nat) : Int) = ((0 : Nat) : Int) := x3
    omega
  obtain ⟨W, hW, hS, -⟩ := hx.2.2.2.2 sne
  have ln := hx.2.2.1
  rw [c0] at ln
  refine k_CA_variable h1 i1 i2 ?_
  rw [h3]
  refine ⟨h2, g0, (s_Ga_hasState i1 h1 g0 hc.1).mono (fun x M3 q => ?_)⟩
  obtain ⟨e, hb, hi⟩ := q
  subst e
  have x0 := hi.mpr l11
  rw [h3, r4, e3.1, g1, n1]
  refine ⟨m_b32 hb, h1, fun _ _ => ⟨h2, kp⟩, fun u => ?_, fun _ => ⟨h2, g0, k1, by omega, (h1 _ _).1, same, ?_⟩⟩
  · rcases u with u | u | u
    · exact absurd u x0
    · omega
    · omega
  · have hWV : W = V := by
      have : (W : Int) = mI M3 p 3 := hW.trans i3.symm
      rw [e3.1] at this
      omega
    unfold vaA9
    rw [← hS]
    unfold Sm9
    rw [rget, if_pos (by omega)]
    show _ = ((lsm M3 (t + 62) W l1.toNat)[l2.toNat]?).getD 0
    unfold lsm
    rw [rget, if_pos (by omega)]
    show _ = mI M3 (t + 62 + 1) (12 * l1.toNat + l2.toNat)
    rw [show (l1 * 12 + l2).toNat = 12 * l1.toNat + l2.toNat by first | rfl | omega]
end CAS
end
section
/-! The class at rest: cells that are made anew; end. -/
section NCW
variable {G : mG} {d t x n cn cc bc T Kt N A B D Cw p O P K p' O' P' K' Ab Be Cm U Ag Bg Cg Ps Pc T1 A1 B1 D1 O1 P1 O2 P2 Ab1 Be1 Ag1 Bg1 Kt' N' : Nat} {M M' M1 : mM} {Z Y C : Nat → Prop} {v R k : Nat → Nat} {Ls : List Nat} {c9 c8 : tG9}
theorem Ap.nz (h : Ap Z C t T A B D O P O' P' Ab Be Ag Bg M) : (∀ x, t ≤ x → x < t + 85 → ¬ Z x) ∧ ¬ Z (t + 235) ∧ (¬ Z T ∧ ¬ Z O ∧ ¬ Z P) := ⟨fun x a b => h.1 x (Or.inl ⟨a, b⟩), h.1 _ (Or.inr (Or.inl rfl)), h.1 _ (Or.inr (Or.inr (by simp))), h.1 _ (Or.inr (Or.inr (by simp))), h.1 _ (Or.inr (Or.inr (by simp)))⟩
theorem Ap.oc (h : Ap Z C t T A B D O P O' P' Ab Be Ag Bg M) : (∀ x, t ≤ x → x < t + 236 → C x ∧ x < mZ M) ∧ (∀ x, Z x → C x ∧ x < mZ M) ∧ (∀ x, x ∈ [T, A, B, D, O, P, O', P', Ab, Be, Ag, Bg] → C x ∧ x < mZ M) := by
  obtain ⟨-, -, -, h4, h5⟩ := h
  exact ⟨fun x a b => ⟨h4 x (Or.inl ⟨a, b⟩), h5 x (h4 x (Or.inl ⟨a, b⟩))⟩, fun x a => ⟨h4 x (Or.inr (Or.inl a)), h5 x (h4 x (Or.inr (Or.inl a)))⟩, fun x a => ⟨h4 x (Or.inr (Or.inr a)), h5 x (h4 x (Or.inr (Or.inr a)))⟩⟩
/-- the same cells, later -/
theorem Ap.mz (h : Ap Z C t T A B D O P O' P' Ab Be Ag Bg M) (hz : mZ M ≤ mZ M') : Ap Z C t T A B D O P O' P' Ab Be Ag Bg M' := ⟨h.1, h.2.1, h.2.2.1, h.2.2.2.1, fun x u => Nat.lt_of_lt_of_le (h.2.2.2.2 x u) hz⟩
/-- arrays have been made anew -/
theorem Ap.re (h : Ap Z C t T A B D O P O' P' Ab Be Ag Bg M) (hz : mZ M ≤ mZ M') (nd : [T1, A1, B1, D1, O1, P1, O2, P2, Ab1, Be1, Ag1, Bg1].Nodup) (pl : (T1 = t + 1 ∨ t + 236 ≤ T1) ∧ (A1 = t + 4 ∨ t + 236 ≤ A1) ∧ (B1 = t + 5 ∨ t + 236 ≤ B1) ∧ (D1 = t + 6 ∨ t + 236 ≤ D1)) (old : ∀ x, x ∈ [T1, A1, B1, D1, O1, P1, O2, P2, Ab1, Be1, Ag1, Bg1] → x ∈ [T, A, B, D, O, P, O', P', Ab, Be, Ag, Bg] ∨ (mZ M ≤ x ∧ x < mZ M')) : Ap Z (Zn C M M') t T1 A1 B1 D1 O1 P1 O2 P2 Ab1 Be1 Ag1 Bg1 M' := by
  obtain ⟨c1, c2, c3⟩ := h.oc
  obtain ⟨h1, -, -, h4, h5⟩ := h
  refine ⟨fun x hx => ?_, nd, pl, fun x hx => ?_, fun x hx => ?_⟩
  · rcases hx with u | u | u
    · exact h1 x (Or.inl u)
    · exact h1 x (Or.inr (Or.inl u))
    · rcases old x u with w | w
      · exact h1 x (Or.inr (Or.inr w))
      · intro zx
        have := (c2 x zx).2
        omega
  · rcases hx with u | u | u
    · exact Or.inl (c1 x u.1 u.2).1
    · exact Or.inl (c2 x u).1
    · rcases old x u with w | w
      · exact Or.inl (c3 x w).1
      · exact Or.inr w
  · rcases hx with u | u
    · have := h5 x u; omega
    · exact u.2
/-- numbers have been made -/
theorem Ap.zn (h : Ap Z C t T A B D O P O' P' Ab Be Ag Bg M) (hz : mZ M ≤ mZ M') : Ap (Zn Z M M') (Zn C M M') t T A B D O P O' P' Ab Be Ag Bg M' := by
  obtain ⟨c1, c2, c3⟩ := h.oc
  obtain ⟨h1, h2, h3, h4, h5⟩ := h
  refine ⟨fun x hx u => ?_, h2, h3, fun x hx => ?_, fun x hx => ?_⟩
  · have lt : x < mZ M := by
      rcases hx with w | w | w
      · exact (c1 x w.1 (by omega)).2
      · exact (c1 x (by omega) (by omega)).2
      · exact (c3 x w).2
    rcases u with u | u
    · exact h1 x hx u
    · omega
  · rcases hx with u | (u | u) | u
    · exact Or.inl (c1 x u.1 u.2).1
    · exact Or.inl (c2 x u).1
    · exact Or.inr u
    · exact Or.inl (c3 x u).1
  · rcases hx with u | u
    · have := h5 x u; omega
    · exact u.2
/-- the text's side with another tape -/
theorem Tx.tap {c7 : Nat → Int} (h : Tx c9 t T Kt N A B D Cw p O P K p' O' P' K' Ab Be Cm M) (o : mOk M') (f : FC Y M M') (hz : ∀ x, t + 2 ≤ x → x < t + 62 → ¬ Y x) (nO : ¬ Y O) (nP : ¬ Y P) (hr : ∀ i, 2 ≤ i → mR M' t i = mR M t i) (i6 : mI M' t 6 = mI M t 6) (tap : Tap c7 M' t T1 Kt' N') : Tx (c7, c9.2) t T1 Kt' N' A B D Cw p O P K p' O' P' K' Ab Be Cm M' := by
  obtain ⟨h1, h2, h3, h4, h5, h6, h7, h8⟩ := h
  refine ⟨by rw [hr 2 (by decide), hr 3 (by decide), hr 4 (by decide), hr 5 (by decide)]; exact h1, tap, h3.fc f (hz _ (by omega) (by omega)), h4.fc o f (fun x a b => hz x (by omega) (by omega)) (hz _ (by omega) (by omega)), h5.fc f (hz _ (by omega) (by omega)), h6, fun u => ?_, h8.fc f h5 i6 (fun i hi => hz _ (by omega) (by omega)) nO nP⟩
  rw [i6] at u
  obtain ⟨V, F, ns, sf, ef, L, cnt, hw⟩ := h7 u
  exact ⟨V, F, ns, sf, ef, L, cnt, hw.fc f (fun i hi => hz _ (by omega) (by omega)) nO nP⟩
theorem sta2_lo (pT : T = t + 1 ∨ t + 236 ≤ T) : (∀ x, t + 2 ≤ x → x < t + 62 → ¬ Sta2 t T x) ∧ (∀ x, t + 62 ≤ x → x < t + 85 → ¬ Sta2 t T x) ∧ ¬ Sta2 t T (t + 235) ∧ (∀ i, i ≤ 9 → ¬ Sta2 t T (t + 62 + i)) := by
  unfold Sta2
  exact ⟨fun x a b u => by omega, fun x a b u => by omega, fun u => by omega, fun i a u => by omega⟩
/-- what is outside the numbers -/
theorem sta2_z (h : Ap Z C t T A B D O P O' P' Ab Be Ag Bg M) (hx : Tx c9 t T Kt N A B D Cw p O P K p' O' P' K' Ab Be Cm M) : (∀ x, Sta2 t T x → ¬ Z x ∧ C x) ∧ ¬ Sta2 t T O ∧ ¬ Sta2 t T P ∧ t + 235 < mZ M ∧ t + 236 ≤ mZ M := by
  obtain ⟨z1, z2, z3, z4, z5⟩ := h.nz
  obtain ⟨c1, c2, c3⟩ := h.oc
  have tn := (List.nodup_cons.1 h.2.1).1
  have o4 := hx.2.2.2.2.1.2.2.2.1
  have pp := hx.2.2.2.2.2.1
  clear hx
  refine ⟨fun x u => ?_, fun u => ?_, fun u => ?_, (c1 _ (by omega) (by omega)).2, (c1 (t + 235) (by omega) (by omega)).2⟩
  · rcases u with u | u
    · rw [u]; exact ⟨z1 t (by omega) (by omega), (c1 t (by omega) (by omega)).1⟩
    · rw [u]; exact ⟨z3, (c3 T (by simp)).1⟩
  · rcases u with u | u
    · omega
    · exact tn (by rw [← u]; simp)
  · rcases u with u | u
    · omega
    · exact tn (by rw [← u]; simp)
theorem c_CA_end {l : Int} (il : i32 l) (h : CI c9 C n t Ps Pc M) (hl : 0 ≤ l ∧ l ≤ 20 ∧ 20 ≤ mI M t 1) : Ci G y_CA_end d [vr t, vi l] M (fun r M' => i32 r ∧ cQ0 c9 C n t Ps Pc M M' ∧ r = mI M t 1 + (l - 20) ∧ mI M' t 1 = r ∧ xcF M M' t) := by
  obtain ⟨T, Kt, N, A, B, D, Cw, p, O, P, K, p', O', P', K', Ab, Be, Cm, U, Ag, Bg, Cg, cn, cc, bc, Ls, v, R, k, Z, hj0⟩ := h
  obtain ⟨h1, h2, h3, h4, h5, h6, h7⟩ := id hj0
  obtain ⟨⟨ta1, ta2, ta3⟩, ta4, ta5, ta6, ta9⟩ := id h2.2.1
  obtain ⟨lo1, lo2, lo3, lo4⟩ := sta2_lo h5.2.2.1.1
  obtain ⟨zc, nO, nP, zp, -⟩ := sta2_z h5 h2
  rw [ta3] at hl
  obtain ⟨N', hN, hN'⟩ : ∃ N' : Nat, ((N : Nat) : Int) + (l - 20) = ((N' : Nat) : Int) ∧ N' ≤ N := ⟨(((N : Nat) : Int) + (l - 20)).toNat, by omega, by omega⟩
  refine (s_CA_end il h1 ta1 ta3 ta6.2.1 ⟨hl.1, hl.2.1, by omega⟩).mono (fun r M' q => ?_)
  obtain ⟨q1, q2, q3⟩ := q
  have f : FI (fun x => x = t) M M' := by rw [q3]; exact FI.ui rfl
  have fc : FC (Sta2 t T) M M' := f.fc (fun _ u => Or.inl u)
  have it : ∀ i, i ≠ 1 → mI M' t i = mI M t i := fun i hi => by rw [q3, mI_UI, if_neg (fun u => hi u.2)]
  have i1 : mI M' t 1 = ((N : Nat) : Int) + (l - 20) := by rw [q3, mI_UI, if_pos ⟨rfl, rfl⟩]
  have ez : mZ M' = mZ M ∧ mS M' = mS M := ⟨f.2.2.2.2.1, f.2.2.2.2.2.1⟩
  have tap : Tap c9.1 M' t T Kt N' := by
    refine ⟨⟨by rw [f.1]; exact ta1, by rw [f.2.2.1]; exact ta2, by rw [i1]; exact hN⟩, by rw [f.1, f.2.1]; exact ta4, by rw [ez.1]; exact ta5, ⟨Nat.le_trans hN' ta6.1, Nat.le_trans hN' ta6.2.1, ta6.2.2⟩, fun j hj => ?_⟩
    rw [f.2.2.2.2.2.2 T ta5.1.symm]
    exact ta9 j (Nat.lt_of_lt_of_le hj hN')
  have tx := h2.tap q2 fc lo1 nO nP (fun i _ => by rw [f.2.2.1]) (it 6 (by decide)) tap
  obtain ⟨ns, pe, qe⟩ := h4.fc q2 fc (fun x u => (zc x u).1) lo4 lo3 zp (fun i _ => by rw [f.2.2.1]) (it 18 (by decide))
  refine ⟨by rw [q1, hN]; have := ta6.2.1; exact i32s (by clear hj0; omega) (by clear hj0; omega), ⟨C, Ps, Pc, ⟨T, Kt, N', A, B, D, Cw, p, O, P, K, p', O', P', K', Ab, Be, Cm, U, Ag, Bg, Cg, cn, cc, bc, Ls, v, R, k, Z, q2, tx, (h3.fc fc lo2).up, ns, h5.mz (by rw [ez.1]; exact Nat.le_refl _), ?_, by rw [it 6 (by decide)]; exact h7⟩, fc.mono (fun x _ u => (zc x u).2), fun x u => Or.inl u, by rw [ez.2]; exact Nat.le_refl _, by rw [ez.1]; exact Nat.le_refl _⟩, by rw [q1, ta3], by rw [i1, q1], it 7 (by decide), it 8 (by decide), fun i _ _ => f.2.2.2.2.2.2 _ (show ¬ (t + 62 + i = t) by first | rfl | omega), hj0.knf (by rw [f.2.2.1]) (by rw [hj0.vfc fc (fun x u => (zc x u).1)])⟩
  unfold Rmc
  rw [pe, qe]
  exact h6
/-- a tape that may be new -/
theorem Ap.tape (h : Ap Z C t T A B D O P O' P' Ab Be Ag Bg M) (hz : mZ M ≤ mZ M') (t5 : t + 236 ≤ mZ M) (e : T1 = T ∨ (mZ M ≤ T1 ∧ T1 < mZ M')) : Ap Z (Zn C M M') t T1 A B D O P O' P' Ab Be Ag Bg M' := by
  obtain ⟨c1, c2, c3⟩ := h.oc
  have nd := List.nodup_cons.1 h.2.1
  have pl := h.2.2.1
  refine h.re hz (List.nodup_cons.2 ⟨?_, nd.2⟩) ⟨by rcases e with e | e <;> omega, pl.2⟩ (fun x hx => ?_)
  · rcases e with e | e
    · rw [e]; exact nd.1
    · intro u
      have := (c3 T1 (List.mem_cons_of_mem _ u)).2
      omega
  · rcases List.mem_cons.mp hx with u | u
    · rw [u]
      rcases e with e | e
      · rw [e]; exact Or.inl (by simp)
      · exact Or.inr e
    · exact Or.inl (List.mem_cons_of_mem _ u)
/-- the room of a tape that may be new -/
theorem rmc_tape {Pn' Qn' : Nat} (h6 : Rmc Kt Cw K K' Cm Cg Ps Pc Ls k M) (pe : Pn Ls k M' = Pn Ls k M ∧ Qn Ls k M' = Qn Ls k M) (k20 : 20 ≤ Kt) (gr : (Kt' = Kt ∧ mZ M' = mZ M ∧ mS M' = mS M) ∨ (Kt' = 2 * Kt ∧ mZ M' = mZ M + 1 ∧ mS M' = mS M + 2 * Kt)) : Rmc Kt' Cw K K' Cm Cg (Ps + 2 * (Kt' - Kt)) (Pc + 4 * (Kt' - Kt)) Ls k M' ∧ mS M' + Ps ≤ mS M + (Ps + 2 * (Kt' - Kt)) ∧ 64 * mZ M' + Pc ≤ 64 * mZ M + (Pc + 4 * (Kt' - Kt)) := by
  unfold Rmc at h6 ⊢
  rw [pe.1, pe.2]
  rcases gr with g | g <;> exact ⟨⟨by omega, by omega, h6.2.2⟩, by omega, by omega⟩
theorem c_CA_feed {l1 l2 l3 l4 l5 : Int} (i1 : i32 l1) (i2 : i32 l2) (i3 : i32 l3) (i4 : i32 l4) (i5 : i32 l5) (h : CI c9 C n t Ps Pc M) : Ci G y_CA_feed (d + 2) [vr t, vi l1, vi l2, vi l3, vi l4, vi l5] M (fun r M' => i32 r ∧ ∃ c8, (cQ0 c8 C n t Ps Pc M M' ∧ xcF M M' t) ∧ ((r = -1 ∧ 16384 < mI M t 1 + 20 ∧ mI M' t 1 = mI M t 1 ∧ c8 = c9) ∨ (r = mI M t 1 + 20 ∧ mI M t 1 + 20 ≤ 16384 ∧ mI M' t 1 = r ∧ c8 = (fdc c9.1 (mI M t 1).toNat l1 l2 l3 l4 l5, c9.2)))) := by
  obtain ⟨T, Kt, N, A, B, D, Cw, p, O, P, K, p', O', P', K', Ab, Be, Cm, U, Ag, Bg, Cg, cn, cc, bc, Ls, v, R, k, Z, hj⟩ := id h
  obtain ⟨h1, h2, h3, h4, h5, h6, h7⟩ := id hj
  have tap0 := h2.2.1
  have ta3 := tap0.1.2.2
  have k20 := tap0.2.2.2.1.2.2.1
  obtain ⟨lo1, lo2, lo3, lo4⟩ := sta2_lo h5.2.2.1.1
  obtain ⟨zc, nO, nP, zp, t5⟩ := sta2_z h5 h2
  refine (s_CA_feed (d := d) i1 i2 i3 i4 i5 h1 tap0).mono (fun r M' q => ?_)
  rw [ta3]
  rcases q with ⟨q1, q2, q3⟩ | ⟨q1, q2, T', Kt', o, tap, fa, it, rt, gr⟩
  · rw [q3, ta3]
    exact ⟨by rw [q1]; exact ⟨by decide, by decide⟩, c9, ⟨h.same.1, h.same.2.2⟩, Or.inl ⟨q1, by clear hj h2 h3 h4 h5 h6; omega, rfl, rfl⟩⟩
  have fc : FC (Sta2 t T) M M' := fa.fc (fun _ u => u) (fun x u => Or.inl u)
  have tx := h2.tap o fc lo1 nO nP (fun i hi => rt i (by omega)) (it 6 (by decide)) tap
  obtain ⟨ns, pq⟩ := h4.fc o fc (fun x u => (zc x u).1) lo4 lo3 zp (fun i hi => rt i (by omega)) (it 18 (by decide))
  have Tz := tap.2.2.1.2.2
  have ap := h5.tape fc.1.1 t5 (T1 := T') (by rcases gr with g | g; exact Or.inl g.1; exact Or.inr ⟨Nat.le_of_eq g.1.symm, Tz⟩)
  obtain ⟨rm, r1, r2⟩ := rmc_tape (Pn' := 0) (Qn' := 0) h6 pq k20 (Kt' := Kt') (gr.imp (fun g => g.2) (fun g => g.2))
  exact ⟨by rw [q1]; exact i32s (by clear hj h2 h3 h4 h5 h6; omega) (by clear hj h2 h3 h4 h5 h6; omega), (fdc c9.1 N l1 l2 l3 l4 l5, c9.2), ⟨⟨Zn C M M', _, _, ⟨T', Kt', N + 20, A, B, D, Cw, p, O, P, K, p', O', P', K', Ab, Be, Cm, U, Ag, Bg, Cg, cn, cc, bc, Ls, v, R, k, Z, o, tx, (h3.fc fc lo2).up, ns, ap, rm, by rw [it 6 (by decide)]; exact h7⟩, fc.mono (fun x _ u => (zc x u).2), fun x u => u, r1, r2⟩, it 7 (by decide), it 8 (by decide), fun i hi _ => (fc.sm (by clear hj h2 h3 h4 h5 h6 ns tx; omega) (lo2 _ (by omega) (by omega))).2.2.2, hj.knf (rt 11 (by omega)) (by rw [hj.vfc fc (fun x u => (zc x u).1)])⟩, Or.inr ⟨by rw [q1]; clear hj h2 h3 h4 h5 h6; omega, by clear hj h2 h3 h4 h5 h6; omega, by rw [tap.1.2.2, q1], by rw [Int.toNat_natCast]⟩⟩
end NCW
end
section
/-! The class at rest: steps of its numbers. -/
section NCX
variable {G : mG} {d t x n g s b cn cc bc T Kt N A B D Cw p O P K p' O' P' K' Ab Be Cm U Ag Bg Cg Ps Pc : Nat} {M M' M1 : mM} {Z Y C Tn Cm' : Nat → Prop} {v v' R k Rn kn : Nat → Nat} {Ls L L' : List Nat} {W : Nat → Nat} {r : Prop} {c9 c8 : tG9}
theorem stb_ne (h : Stb s x) : x ≠ s + 1 := by unfold Stb at h; omega
theorem gi_ne {i : Nat} (h : g + 22 < s) (hi : i ≤ 9) : g + i ≠ s + 1 := by omega
theorem re_ne {i : Nat} : s + 31 + i ≠ s + 1 := by omega
/-- the Solver under a step of numbers -/
theorem Sb.nx (h : Sb L W s g cn cc bc M) (q : NX L W Tn Cm' False (s + 1) M M') (hg : ∀ i, i ≤ 9 → ¬ Cm' (g + i)) : Sb L W s g cn cc bc M' := by
  obtain ⟨⟨o, ⟨⟨a1, a2⟩, a3, a4, a5⟩, ⟨b1, b2, b3, b4⟩, ⟨b5, b6⟩, gt⟩, ⟨hF, hSK, ⟨⟨c0, c1, c2, c3⟩, c4, c5, c6⟩, hf⟩, hSt, hgo⟩ := h
  have st : ∀ x, Stb s x → mK M' x = mK M x ∧ mN M' x = mN M x ∧ mR M' x = mR M x := fun x hx => by
    have := q.oth (hSt x hx) (stb_ne hx)
    exact ⟨this.1, this.2.1, this.2.2.1⟩
  have go : ∀ i, i ≤ 9 → mK M' (g + i) = mK M (g + i) ∧ mN M' (g + i) = mN M (g + i) ∧ mR M' (g + i) = mR M (g + i) ∧ mI M' (g + i) = mI M (g + i) := fun i hi => by
    have := q.oth (hgo i hi) (gi_ne a2 hi)
    exact ⟨this.1, this.2.1, this.2.2.1, this.2.2.2 (hg i hi)⟩
  have re : ∀ i, i ≤ 6 → mK M' (s + 31 + i) = mK M (s + 31 + i) ∧ mN M' (s + 31 + i) = mN M (s + 31 + i) ∧ mR M' (s + 31 + i) = mR M (s + 31 + i) := fun i hi => by
    have := q.oth (c4 i hi) re_ne
    exact ⟨this.1, this.2.1, this.2.2.1⟩
  have e0 := st s (Or.inl rfl)
  have e29 := st (s + 29) (Or.inr (Or.inl rfl))
  have e30 := st (s + 30) (Or.inr (Or.inr (Or.inl rfl)))
  have e122 := st (s + 122) (Or.inr (Or.inr (Or.inr (Or.inl rfl))))
  have e123 := st (s + 123) (Or.inr (Or.inr (Or.inr (Or.inr (Or.inl rfl)))))
  have e124 := st (s + 124) (Or.inr (Or.inr (Or.inr (Or.inr (Or.inr (Or.inl rfl))))))
  have e125 := st (s + 125) (Or.inr (Or.inr (Or.inr (Or.inr (Or.inr (Or.inr (Or.inl rfl)))))))
  have e126 := st (s + 126) (Or.inr (Or.inr (Or.inr (Or.inr (Or.inr (Or.inr (Or.inr (Or.inl rfl))))))))
  have e128 := st (s + 128) (Or.inr (Or.inr (Or.inr (Or.inr (Or.inr (Or.inr (Or.inr (Or.inr (Or.inl rfl)))))))))
  have e129 := st (s + 129) (Or.inr (Or.inr (Or.inr (Or.inr (Or.inr (Or.inr (Or.inr (Or.inr (Or.inr rfl)))))))))
  have g0 := go 0 (by decide)
  rw [Nat.add_zero] at g0
  have r0 := re 0 (by decide)
  rw [Nat.add_zero] at r0
  have r1 := re 1 (by decide)
  have r2 := re 2 (by decide)
  have r3 := re 3 (by decide)
  have r4 := re 4 (by decide)
  have r5 := re 5 (by decide)
  have r6 := re 6 (by decide)
  refine ⟨⟨q.ok, ⟨⟨by rw [e0.1]; exact a1, a2⟩, by rw [e0.2.2]; exact a3, by rw [e29.1, e30.1, e122.1, e123.1, e124.1, e125.1, e126.1, e128.1, e129.1]; exact a4, by rw [e29.2.1, e30.2.1, e122.2.1, e123.2.1, e124.2.1, e125.2.1, e126.2.1, e128.2.1, e129.2.1]; exact a5⟩, ⟨by rw [g0.1]; exact b1, by rw [g0.2.2.1]; exact b2, fun i i1 i2 => by rw [(go i i2).1]; exact b3 i i1 i2, by rw [(go 2 (by decide)).2.1, (go 4 (by decide)).2.1, (go 6 (by decide)).2.1, (go 7 (by decide)).2.1, (go 8 (by decide)).2.1, (go 9 (by decide)).2.1]; exact b4⟩, ⟨by rw [g0.2.2.1]; exact b5, by rw [(go 3 (by decide)).2.1]; exact b6⟩, gt.same (fun i hi => (go i hi).2.2.2)⟩, ⟨q.nf, q.sk hF hSK, ⟨⟨by rw [r0.1]; exact c0, by rw [r0.2.2]; exact c1, by rw [r1.1, r2.1, r3.1, r4.1, r5.1, r6.1]; exact c2, by rw [r1.2.1, r2.2.1, r3.2.1, r4.2.1, r5.2.1, r6.2.1]; exact c3⟩, fun i hi => q.oc hF (c4 i hi), fun i hi => by rw [r2.2.2]; exact c5 i hi, c6⟩, (q.frl hF hf).1⟩, fun x hx => q.oc hF (hSt x hx), fun i hi => q.oc hF (hgo i hi)⟩
/-- a step of numbers that touches no table -/
theorem Nms.nxg (h : Nms L W s g b cn cc bc v R k M) (q : NX L W Tn Cm' False (s + 1) M M') (hT : ∀ x, Tn x → x < b) (hC : ∀ x, Cm' x → x < b) (hv : ∀ j, j < 4 → ¬ Cm' (v j)) (hg : ∀ i, i ≤ 9 → ¬ Cm' (g + i)) : Nms L W s g b cn cc bc v R k M' ∧ ∀ j, j < 4 → mI M' (v j) = mI M (v j) := by
  obtain ⟨sb, tb, ⟨b1, b2⟩, tk⟩ := h
  have hF := sb.2.1.1
  refine ⟨⟨sb.nx q hg, tb.nx q hF, ⟨b1, Nat.le_trans b2 q.2.2.1.1.1⟩, fun j hj j2 => (tk j hj j2).nx (tb.1 j hj) q hF (hv j hj) (fun l hl => ?_)⟩, fun j hj => (q.oth (tb.1 j hj).1.2.2.2.2.1.1 (by have := (tb.1 j hj).2.2.2.2.1; omega)).2.2.2 (hv j hj)⟩
  have bl := (tb.1 j hj).2.1 l hl
  exact ⟨fun u => by have := hT _ u; omega, fun u => by have := hT _ u; omega, fun u => by have := hC _ u; omega⟩
theorem NX.cnu (q : NX L W Tn Cm' r (s + 1) M M') (hF : NF L W M) (hc : Cnu Z L s v R k M) (tb : Tb0 L M s b v R k) : Cnu (Zn Z M M') L s v R k M' ∧ FC (fun x => Z x ∨ Cm' x) M M' := by
  have hc' : Cnu (fun x => Z x ∨ Cm' x) L s v R k M := hc.cg (fun x u => Or.inl u)
  refine ⟨?_, (q.fc hF hc' tb (fun x u => Or.inr u)).1⟩
  obtain ⟨c1, c2, c3, c4, c5, c6⟩ := hc
  refine ⟨fun x a1 a2 => Or.inl (c1 x a1 a2), fun a ha => ⟨Or.inl (c2 a ha).1, ?_⟩, fun i hi => ⟨Or.inl (c3 i hi).1, Or.inl (c3 i hi).2.1, fun j hj => ?_⟩, Or.inl c4, c5.nx q hF c6, q.oc hF c6⟩
  · by_cases c : Tn a
    · rcases q.2.2.2.1 a c with e | e
      · rw [e]; exact Or.inl (c2 a ha).2
      · exact Or.inr ⟨e, (q.nf.lt ha).2⟩
    · rw [(q.num hF ha c).1]; exact Or.inl (c2 a ha).2
  · rw [((tb.1 i hi).nx q hF).2]; exact Or.inl ((c3 i hi).2.2 j hj)
/-- the cells that a call about numbers may change -/
def Yn (Z : Nat → Prop) (t x : Nat) : Prop := Z x ∨ x = t ∨ x = t + 235
theorem yn_lo (h : Ap Z C t T A B D O P O' P' Ab Be Ag Bg M) (hx : Tx c9 t T Kt N A B D Cw p O P K p' O' P' K' Ab Be Cm M) : (∀ x, t + 2 ≤ x → x < t + 62 → ¬ Yn Z t x) ∧ (∀ x, t + 62 ≤ x → x < t + 85 → ¬ Yn Z t x) ∧ (¬ Yn Z t T ∧ ¬ Yn Z t O ∧ ¬ Yn Z t P) ∧ ∀ x, Yn Z t x → C x := by
  obtain ⟨z1, z2, z3, z4, z5⟩ := h.nz
  obtain ⟨c1, c2, c3⟩ := h.oc
  have o4 := hx.2.2.2.2.1.2.2.2.1
  have pp := hx.2.2.2.2.2.1
  have pT := h.2.2.1.1
  clear hx
  have nn : ∀ x, ¬ Z x → x ≠ t → x ≠ t + 235 → ¬ Yn Z t x := fun x a b c u => u.elim a (fun u => u.elim b c)
  refine ⟨fun x a b => nn x (z1 x (by omega) (by omega)) (by omega) (by omega), fun x a b => nn x (z1 x (by omega) (by omega)) (by omega) (by omega), ⟨nn T z3 (by omega) (by omega), nn O z4 (by omega) (by omega), nn P z5 (by omega) (by omega)⟩, fun x u => ?_⟩
  rcases u with u | u | u
  · exact (c2 x u).1
  · rw [u]; exact (c1 t (by omega) (by omega)).1
  · rw [u]; exact (c1 _ (by omega) (by omega)).1
/-- a step of numbers, in the class -/
theorem CJ.num (hj : CJ c9 C n t Ps Pc T Kt N A B D Cw p O P K p' O' P' K' Ab Be Cm U Ag Bg Cg cn cc bc Ls v R k Z M) (o : mOk M') (f : FC (Yn Z t) M M') (hr : ∀ i, i ≤ 5 → mR M' t i = mR M t i) (i1 : mI M' t 1 = mI M t 1) (i6 : mI M' t 6 = mI M t 6) (i7 : mI M' t 7 = mI M t 7) (i8 : mI M' t 8 = mI M t 8) (ns : Ns (Zn Z M M') t L' v' Rn kn cn cc bc M') (rq : Rq Ls k M L' kn M') : cQ0 c9 C n t Ps Pc M M' ∧ sE0 M M' t := by
  obtain ⟨h1, h2, h3, h4, h5, h6, h7⟩ := hj
  obtain ⟨y1, y2, ⟨y3, y4, y5⟩, y6⟩ := yn_lo h5 h2
  have tx := h2.fc o f y1 y3 y4 y5 hr i1 i6
  refine ⟨⟨Zn C M M', Ps + Pn L' kn M' - Pn Ls k M, Pc + 64 * Qn L' kn M' - 64 * Qn Ls k M, ⟨T, Kt, N, A, B, D, Cw, p, O, P, K, p', O', P', K', Ab, Be, Cm, U, Ag, Bg, Cg, cn, cc, bc, L', v', Rn, kn, Zn Z M M', o, tx, (h3.fc f y2).up, ns, h5.zn f.1.1, ?_, by rw [i6]; exact h7⟩, f.mono (fun x _ u => y6 x u), fun x u => u, ?_, ?_⟩, i1, i7, i8, fun i hi _ => (f.sm (by have := h3.2.1.2.2.2.2.2.2.1.1; clear h2 h4 h5 h6 tx ns; omega) (y2 _ (by omega) (by omega))).2.2.2⟩
  · clear tx ns h2 h3 h4 h5 f
    obtain ⟨r1, r2, r3, -⟩ := rq
    unfold Rmc at h6 ⊢
    exact ⟨by omega, by omega, by omega⟩
  · clear tx ns h2 h3 h4 h5 f
    obtain ⟨r1, r2, r3, -⟩ := rq
    unfold Rmc at h6
    omega
  · clear tx ns h2 h3 h4 h5 f
    obtain ⟨r1, r2, r3, -⟩ := rq
    unfold Rmc at h6
    omega
/-- the numbers' side after a step that leaves the top and what is printed -/
theorem Ns.step (h : Ns Z t Ls v R k cn cc bc M) (nz : ¬ Z t ∧ ¬ Z (t + 235)) (zp : t + 235 < mZ M) (f : FC Z M M') (nm : Nms L' (Wt t) (t + 85) (t + 62) (t + 236) cn cc bc v Rn kn M') (cn' : Cnu (Zn Z M M') L' (t + 85) v Rn kn M') (f2 : mI M' (v 2) 1 = 0) (ch : mI M' (v 0) 1 ≠ 0 → Chs M' (t + 85) (t + 62) cn) (rq : Rq Ls k M L' kn M') : Ns (Zn Z M M') t L' v Rn kn cn cc bc M' := by
  obtain ⟨h1, h2, h3, h4, h5, ⟨h6, h6', h6z⟩, h7, h8⟩ := h
  obtain ⟨tr, ti⟩ := h3.fc f nz.1
  have sp := f.sm zp nz.2
  exact ⟨nm, cn', tr, f2, ch, ⟨rq.2.2.2.1 _ h6, rq.2.2.2.2 _ h6', Or.inl h6z⟩, by unfold Pch; rw [sp.1, sp.2.1, sp.2.2.2]; exact h7, by rw [ti]; exact h8⟩
theorem FC.yn (f : FC Z M M') : FC (Yn Z t) M M' := f.mono (fun x _ u => Or.inl u)
end NCX
end
section
/-! The class at rest: solve, judge, check, within, compare, billionths, print. -/
section NCY
variable {G : mG} {d t x n cn cc bc T Kt N A B D Cw p O P K p' O' P' K' Ab Be Cm U Ag Bg Cg Ps Pc : Nat} {M M' M1 : mM} {Z Y C : Nat → Prop} {v v' R k Rn kn : Nat → Nat} {Ls L L' : List Nat} {c9 c8 : tG9}
/-- cells of the top that are no numbers -/
theorem CJ.top (hj : CJ c9 C n t Ps Pc T Kt N A B D Cw p O P K p' O' P' K' Ab Be Cm U Ag Bg Cg cn cc bc Ls v R k Z M) : (¬ Z t ∧ ¬ Z (t + 235)) ∧ (t < mZ M ∧ t + 235 < mZ M) ∧ mI M (t + 62) 0 = ((cn : Nat) : Int) := by
  obtain ⟨z1, z2, -⟩ := hj.2.2.2.2.1.nz
  obtain ⟨c1, -⟩ := hj.2.2.2.2.1.oc
  exact ⟨⟨z1 t (by omega) (by omega), z2⟩, ⟨(c1 t (by omega) (by omega)).2, (c1 _ (by omega) (by omega)).2⟩, hj.tg.2.2.2.cnt.1⟩
theorem CJ.go0 (hj : CJ c9 C n t Ps Pc T Kt N A B D Cw p O P K p' O' P' K' Ab Be Cm U Ag Bg Cg cn cc bc Ls v R k Z M) (N1 : Nms L' (Wt t) (t + 85) (t + 62) (t + 236) cn cc bc v Rn kn M') (P1 : Sp Z (t + 85) v M M' L' Rn kn) (Q1 : Rq Ls k M L' kn M') (f2 : mI M' (v 2) = mI M (v 2)) (ch : mI M' (v 0) 1 ≠ 0 → Chs M' (t + 85) (t + 62) cn) : (cQ0 c9 C n t Ps Pc M M' ∧ sE0 M M' t) ∧ mR M' t = mR M t := by
  obtain ⟨⟨z1, z2⟩, ⟨l1, l2⟩, -⟩ := hj.top
  have jn := hj.2.2.2.1
  obtain ⟨-, e1, e2⟩ := (P1.1.2 t l1).2.2 z1
  exact ⟨hj.num N1.cnt.2.2.2 P1.1.yn (fun i _ => by rw [e1]) (by rw [e2]) (by rw [e2]) (by rw [e2]) (by rw [e2]) (jn.step ⟨z1, z2⟩ l2 P1.1 N1 P1.2 (by rw [f2]; exact jn.2.2.2.1) ch Q1) Q1, e1⟩
theorem CJ.go (hj : CJ c9 C n t Ps Pc T Kt N A B D Cw p O P K p' O' P' K' Ab Be Cm U Ag Bg Cg cn cc bc Ls v R k Z M) (N1 : Nms L' (Wt t) (t + 85) (t + 62) (t + 236) cn cc bc v Rn kn M') (P1 : Sp Z (t + 85) v M M' L' Rn kn) (Q1 : Rq Ls k M L' kn M') (f2 : mI M' (v 2) = mI M (v 2)) (ch : mI M' (v 0) 1 ≠ 0 → Chs M' (t + 85) (t + 62) cn) (kv : mI M' (v 0) 1 = mI M (v 0) 1) : cQ c9 C n t Ps Pc M M' := by
  obtain ⟨⟨a1, a2⟩, a3⟩ := hj.go0 N1 P1 Q1 f2 ch
  exact ⟨a1, a2.kn (hj.knf (by rw [a3]) kv)⟩
theorem c_CA_solve (h : CI c9 C n t Ps Pc M) (c0 : mI M (t + 62) 0 ≠ 0) : Ci G y_CA_solve (d + 9) [vr t] M (fun r M' => i32 r ∧ (cQ0 c9 C n t Ps Pc M M' ∧ sE0 M M' t ∧ mI M' (mR M' t 11) 1 = if r = 0 then 1 else 0) ∧ (kdT (xtm M (t + 62) (mI M (t + 62) 0).toNat) → svA9 (xtm M (t + 62) (mI M (t + 62) 0).toNat) r)) := by
  obtain ⟨T, Kt, N, A, B, D, Cw, p, O, P, K, p', O', P', K', Ab, Be, Cm, U, Ag, Bg, Cg, cn, cc, bc, Ls, v, R, k, Z, hj⟩ := h
  obtain ⟨⟨z1, z2⟩, -, e0⟩ := hj.top
  have jn := hj.2.2.2.1
  rw [e0] at c0
  refine (n_CA_solve (d := d) jn.1 jn.2.1 jn.2.2.1 z1 (by clear jn hj; omega) wt_r wt_s).mono (fun r M' q => ?_)
  obtain ⟨ix, ⟨L', Rn, kn, N1, P1, Q1, G1, V1⟩, ch, qsv, qk⟩ := q
  rw [e0, Int.toNat_natCast]
  obtain ⟨⟨a1, a2⟩, a3⟩ := hj.go0 N1 P1 Q1 (V1 2 (by decide) (by decide)) ch
  exact ⟨ix, ⟨a1, a2, by rw [a3, jn.2.2.1.2.2.1.1]; exact qk⟩, qsv⟩
theorem c_CA_judge {l : Int} (hl : l = 1 ∨ l = 2) (h : CI c9 C n t Ps Pc M) (c0 : mI M (t + 62) 0 ≠ 0) : Ci G y_CA_judge (d + 9) [vr t, vi l] M (fun r M' => i32 r ∧ cQ c9 C n t Ps Pc M M') := by
  obtain ⟨T, Kt, N, A, B, D, Cw, p, O, P, K, p', O', P', K', Ab, Be, Cm, U, Ag, Bg, Cg, cn, cc, bc, Ls, v, R, k, Z, hj⟩ := h
  obtain ⟨-, -, e0⟩ := hj.top
  have jn := hj.2.2.2.1
  rw [e0] at c0
  refine (n_CA_judge (d := d) hl jn.1 jn.2.1 jn.2.2.1 (by clear jn hj; omega) (tld_of hl hj.2.2.1.2.2.2.2.2.2.1) wt_r wt_s).mono (fun r M' q => ?_)
  obtain ⟨ix, ⟨L', Rn, kn, N1, P1, Q1, G1, V1⟩, e30⟩ := q
  refine ⟨ix, hj.go N1 P1 Q1 (V1 2 (by decide) (by decide)) (fun u => ?_) (by rw [V1 0 (by decide) (by decide)])⟩
  rw [V1 0 (by decide) (by decide)] at u
  exact chs_same (jn.2.2.2.2.1 u) e30 (G1 4 (by decide))
theorem c_CA_check (h : CI c9 C n t Ps Pc M) : Ci G y_CA_check (d + 8) [vr t] M (fun r M' => i32 r ∧ cQ c9 C n t Ps Pc M M') := by
  obtain ⟨T, Kt, N, A, B, D, Cw, p, O, P, K, p', O', P', K', Ab, Be, Cm, U, Ag, Bg, Cg, cn, cc, bc, Ls, v, R, k, Z, hj⟩ := id h
  have jn := hj.2.2.2.1
  refine (n_CA_check (d := d) jn.1 jn.2.1 jn.2.2.1 wt_s).mono (fun r M' q => ?_)
  obtain ⟨ix, q⟩ := q
  rcases q with e | ⟨⟨L', Rn, kn, N1, P1, Q1, G1, V1⟩, ev, e30⟩
  · exact h.rd ⟨e, ix⟩
  · refine ⟨ix, hj.go N1 P1 Q1 (V1 2 (by decide) (by decide)) (fun u => ?_) (by rw [ev])⟩
    rw [ev] at u
    exact chs_same (jn.2.2.2.2.1 u) e30 (G1 4 (by decide))
theorem c_CA_within {l : Int} (hl : 0 ≤ l ∧ l ≤ 32) (h : CI c9 C n t Ps Pc M) (c0 : mI M (t + 62) 0 ≠ 0) : Ci G y_CA_within (d + 9) [vr t, vi l] M (fun r M' => i32 r ∧ cQ c9 C n t Ps Pc M M' ∧ anA9 (xtm M (t + 62) (mI M (t + 62) 0).toNat) l.toNat r) := by
  obtain ⟨T, Kt, N, A, B, D, Cw, p, O, P, K, p', O', P', K', Ab, Be, Cm, U, Ag, Bg, Cg, cn, cc, bc, Ls, v, R, k, Z, hj⟩ := h
  obtain ⟨⟨z1, z2⟩, ⟨l1, l2⟩, e0⟩ := hj.top
  have jn := hj.2.2.2.1
  rw [e0] at c0
  refine (n_CA_within (d := d) hl jn.1 jn.2.1 jn.2.2.1 z1 (by clear jn hj; omega) jn.2.2.2.1 wt_r wt_s).mono (fun r M' q => ?_)
  obtain ⟨⟨ix, an⟩, v', L', Rn, kn, N1, tr, hv, f, cn', rq, ⟨g1, g2, g3, g4, g5⟩, f2, rt⟩ := q
  rw [e0, Int.toNat_natCast]
  obtain ⟨-, -, -, -, h5, ⟨h6, h6', h6z⟩, h7, h8⟩ := jn
  have sp := f.sm l2 (fun u => u.elim z2 (fun u => by omega))
  have r11 := hj.2.2.2.1.2.2.1.2.2.1.1
  have kf : knF M M' t := by
    unfold knF
    rw [tr.2.2.1.1, (vsw hv).1.1, g3, r11]
  refine ⟨ix, (fun q => ⟨q.1, q.2.kn kf⟩) (hj.num N1.cnt.2.2.2 (f.mono (fun x _ u => u.elim Or.inl (fun u => Or.inr (Or.inl u)))) (fun i hi => rt i (by omega) (by omega)) (by rw [g2]) (by rw [g2]) (by rw [g2]) (by rw [g2]) ⟨N1, cn', tr, f2, fun u => ?_, ⟨rq.2.2.2.1 _ h6, rq.2.2.2.2 _ h6', Or.inl h6z⟩, by unfold Pch; rw [sp.1, sp.2.1, sp.2.2.2]; exact h7, by rw [g2]; exact h8⟩ rq), an⟩
  rw [(vsw hv).1.1, g3] at u
  exact chs_same (h5 u) g5 (g1 4 (by decide))
/-- three tables to look at -/
theorem Ns.tv3 (h : Ns Z t Ls v R k cn cc bc M) : Tv3 Ls M t (t + 236) (v 0) (v 1) (v 3) (R 0) (R 1) (R 3) (k 0) (k 1) (k 3) cn := by
  obtain ⟨h1, -, h3, -⟩ := h
  have one : ∀ i, i < 4 → i ≠ 2 → Tv Ls M (t + 236) (v i) (R i) (k i) cn := fun i hi i2 => ⟨(h1.2.1.1 i hi).1, (h1.2.1.1 i hi).2.1, h1.2.2.2 i hi i2⟩
  exact ⟨⟨h3.2.2.1.1, h3.2.2.1.2.1, h3.2.2.1.2.2.2⟩, one 0 (by decide) (by decide), one 1 (by decide) (by decide), one 3 (by decide) (by decide)⟩
/-- a step of numbers that touches no table, in the class -/
theorem CJ.gox {Tn Cn' : Nat → Prop} (hj : CJ c9 C n t Ps Pc T Kt N A B D Cw p O P K p' O' P' K' Ab Be Cm U Ag Bg Cg cn cc bc Ls v R k Z M) (q : NX Ls (Wt t) Tn Cn' False (t + 85 + 1) M M') (hT : ∀ x, Tn x → x < t + 236) (hC : ∀ x, Cn' x → x = t ∨ x = t + 235 ∨ x = t + 230) (ti : ∀ i, i ≠ 18 → mI M' t i = mI M t i) (hp : (mK M' (t + 235) = 32 ∧ mN M' (t + 235) = 400 ∧ Pch M' (t + 235)) ∧ ∃ c : Nat, mI M' t 18 = ((c : Nat) : Int) ∧ c ≤ 400) : cQ c9 C n t Ps Pc M M' := by
  obtain ⟨⟨z1, z2⟩, ⟨l1, l2⟩, -⟩ := hj.top
  obtain ⟨zz, -⟩ := hj.2.2.2.2.1.nz
  obtain ⟨n1, n2, n3, n4, n5, ⟨n6, n6', n6z⟩, n7, n8⟩ := hj.2.2.2.1
  have hF := n1.1.2.1.1
  have nC : ∀ x, ¬ Z x → x ≠ t → x ≠ t + 235 → ¬ Cn' x := fun x a b c u => by
    rcases hC x u with w | w | w
    · exact b w
    · exact c w
    · rw [w] at a; exact a n6z
  have nv : ∀ j, j < 4 → ¬ Cn' (v j) := fun j hj u => by
    have zv := (n2.2.2.1 j hj).1
    have kv := (n1.2.1.1 j hj).1.1
    rcases hC _ u with w | w | w
    · rw [w] at zv; exact z1 zv
    · rw [w] at zv; exact z2 zv
    · rw [w, n6'.1.1] at kv; exact absurd kv (by decide)
  have ng : ∀ i, i ≤ 9 → ¬ Cn' (t + 62 + i) := fun i hi => nC _ (zz _ (by omega) (by omega)) (by omega) (by omega)
  have lt : ∀ x, Cn' x → x < t + 236 := fun x u => by have := hC x u; omega
  obtain ⟨N1, V1⟩ := n1.nxg q hT lt nv ng
  obtain ⟨c', f⟩ := q.cnu hF n2 n1.2.1
  have f' : FC (Yn Z t) M M' := f.mono (fun x _ u => by
    rcases u with u | u
    · exact Or.inl u
    · rcases hC x u with w | w | w
      · exact Or.inr (Or.inl w)
      · exact Or.inr (Or.inr w)
      · rw [w]; exact Or.inl n6z)
  have oct : Oc Ls M t := n2.oc l1 z1
  have rt : mR M' t = mR M t := (q.oth oct (by omega)).2.2.1
  have rq := q.rq (k := k) hF
  have g4 : mI M' (t + 62 + 4) = mI M (t + 62 + 4) := (q.oth (n1.1.2.2.2 4 (by decide)) (by omega)).2.2.2 (ng 4 (by decide))
  have s30 : mI M' (t + 85 + 30) = mI M (t + 85 + 30) := (q.oth (n1.1.2.2.1 _ st30) (by omega)).2.2.2 (fun u => by have := hC _ u; omega)
  refine (fun w => ⟨w.1, w.2.kn (hj.knf (by rw [rt]) (by rw [V1 0 (by decide)]))⟩) (hj.num q.ok f' (fun i _ => by rw [rt]) (ti 1 (by decide)) (ti 6 (by decide)) (ti 7 (by decide)) (ti 8 (by decide)) ⟨N1, c', n3.cg (q.kind l1) (fun i _ => by rw [rt]) f.1.1, by rw [V1 2 (by decide)]; exact n4, fun u => ?_, ⟨n6, rq.2.2.2.2 _ n6', Or.inl n6z⟩, hp.1, hp.2⟩ rq)
  rw [V1 0 (by decide)] at u
  exact chs_same (n5 u) s30 g4
theorem c_CA_compare {l1 l2 l3 l4 : Int} (i1 : i32 l1) (i2 : i32 l2) (i3 : i32 l3) (i4 : i32 l4) (h : CI c9 C n t Ps Pc M) : Ci G y_CA_compare (d + 6) [vr t, vi l1, vi l2, vi l3, vi l4] M (fun r M' => i32 r ∧ cQ c9 C n t Ps Pc M M') := by
  obtain ⟨T, Kt, N, A, B, D, Cw, p, O, P, K, p', O', P', K', Ab, Be, Cm, U, Ag, Bg, Cg, cn, cc, bc, Ls, v, R, k, Z, hj⟩ := id h
  obtain ⟨⟨z1, z2⟩, ⟨lt1, lt2⟩, -⟩ := hj.top
  have jn := hj.2.2.2.1
  have sk := jn.1.1.2.1.2.1
  have so := jn.1.1.1.2.1
  have hF := jn.1.1.2.1.1
  have w9 := wt_s (t := t) (t + 85 + 1 + 9) (by omega) (by omega)
  have w11 := wt_s (t := t) (t + 85 + 1 + 11) (by omega) (by omega)
  refine (s_CA_compare (d := d) (s := t + 85) (b := t + 236) i1 i2 i3 i4 hF sk hj.tg ⟨jn.2.2.1.2.1.2, so.1.1, so.2.1.1⟩ jn.tv3 (by omega) (by omega) (by omega)).mono (fun r M' q => ?_)
  obtain ⟨ix, q⟩ := q
  rcases q with e | q
  · exact h.rd ⟨e, ix⟩
  · have X := q.nx hF
    have ot := X.oth (jn.2.1.oc lt1 z1) (by omega)
    have op := X.oth (jn.2.1.oc lt2 z2) (by omega)
    obtain ⟨-, -, -, -, -, -, n7, n8⟩ := jn
    exact ⟨ix, hj.gox X (fun x u => by unfold Tor at u; omega) (fun x u => u.elim) (fun i _ => by rw [ot.2.2.2 (fun u => u)]) ⟨by unfold Pch; rw [op.1, op.2.1, op.2.2.2 (fun u => u)]; exact n7, by rw [ot.2.2.2 (fun u => u)]; exact n8⟩⟩
/-- the top's own numbers -/
theorem CJ.shn (hj : CJ c9 C n t Ps Pc T Kt N A B D Cw p O P K p' O' P' K' Ab Be Cm U Ag Bg Cg cn cc bc Ls v R k Z M) : Shn Ls M t (t + 85) (t + 228) (t + 230) (t + 236) ∧ Prt Ls M t (t + 235) (t + 228) := by
  obtain ⟨⟨z1, z2⟩, ⟨lt1, lt2⟩, -⟩ := hj.top
  have jn := hj.2.2.2.1
  have so := jn.1.1.1.2.1
  have os := jn.1.1.2.2.1 (t + 85) (Or.inl rfl)
  obtain ⟨n1, n2, n3, n4, n5, ⟨n6, n6', n6z⟩, n7, n8⟩ := jn
  have ot := n2.oc lt1 z1
  exact ⟨⟨⟨n3.1, n3.2.1.2, n3.2.2.2.1.1, n3.2.2.2.1.2.1⟩, ⟨so.1.1, so.2.1.1⟩, ⟨n6, n6'⟩, ⟨ot, os, by omega⟩, by omega, by omega, by omega⟩, ⟨n3.1, n3.2.2.2.1.1, n3.2.2.2.1.2.2⟩, ⟨n7.1, n7.2.1⟩, ⟨ot, n2.oc lt2 z2, by omega⟩, n6, n7.2.2⟩
theorem tsh_lo (h : Tsh (t + 85) (t + 228) (t + 230) x) : x < t + 236 := by unfold Tsh T4 at h; omega
theorem wt_h : ∀ x, t + 85 ≤ x → x < t + 236 → 300 ≤ Wt t x := fun x _ hx => by unfold Wt; rw [if_pos hx]; decide
theorem c_CA_billionths {l1 l2 : Int} (i1 : i32 l1) (i2 : i32 l2) (h : CI c9 C n t Ps Pc M) : Ci G y_CA_billionths (d + 5) [vr t, vi l1, vi l2] M (fun r M' => i32 r ∧ cQ c9 C n t Ps Pc M M') := by
  obtain ⟨T, Kt, N, A, B, D, Cw, p, O, P, K, p', O', P', K', Ab, Be, Cm, U, Ag, Bg, Cg, cn, cc, bc, Ls, v, R, k, Z, hj⟩ := id h
  obtain ⟨⟨z1, z2⟩, ⟨lt1, lt2⟩, -⟩ := hj.top
  have jn := hj.2.2.2.1
  have hF := jn.1.1.2.1.1
  have a1 := wt_h (t := t) (t + 228) (by omega) (by omega)
  have a2 := wt_h (t := t) (t + 230 + 1) (by omega) (by omega)
  have a3 := wt_h (t := t) (t + 230 + 3) (by omega) (by omega)
  have a4 := wt_h (t := t) (t + 85 + 1 + 5) (by omega) (by omega)
  have a5 := wt_h (t := t) (t + 85 + 1 + 7) (by omega) (by omega)
  refine (s_CA_billionths (d := d) i1 i2 hF jn.1.1.2.1.2.1 hj.tg hj.shn.1 jn.tv3 ⟨by omega, by omega, by omega, by omega, by omega⟩).mono (fun r M' q => ?_)
  obtain ⟨ix, q⟩ := q
  rcases q with e | X
  · exact h.rd ⟨e, ix⟩
  · have ot := X.oth (jn.2.1.oc lt1 z1) (by omega)
    have op := X.oth (jn.2.1.oc lt2 z2) (by omega)
    obtain ⟨-, -, -, -, -, -, n7, n8⟩ := jn
    have nt : ¬ (fun x => x = t + 230) t := fun u => by have u' : t = t + 230 := u; omega
    have np : ¬ (fun x => x = t + 230) (t + 235) := fun u => by have u' : t + 235 = t + 230 := u; omega
    exact ⟨ix, hj.gox X (fun x u => tsh_lo u) (fun x u => Or.inr (Or.inr u)) (fun i _ => by rw [ot.2.2.2 nt]) ⟨by unfold Pch; rw [op.1, op.2.1, op.2.2.2 np]; exact n7, by rw [ot.2.2.2 nt]; exact n8⟩⟩
theorem c_CA_print {l1 l2 : Int} (i1 : i32 l1) (i2 : i32 l2) (h : CI c9 C n t Ps Pc M) : Ci G y_CA_print (d + 6) [vr t, vi l1, vi l2] M (fun r M' => i32 r ∧ cQ c9 C n t Ps Pc M M') := by
  obtain ⟨T, Kt, N, A, B, D, Cw, p, O, P, K, p', O', P', K', Ab, Be, Cm, U, Ag, Bg, Cg, cn, cc, bc, Ls, v, R, k, Z, hj⟩ := id h
  have jn := hj.2.2.2.1
  have hF := jn.1.1.2.1.1
  have a1 := wt_h (t := t) (t + 228) (by omega) (by omega)
  refine (s_CA_print (d := d) i1 i2 hF jn.1.1.2.1.2.1 hj.tg hj.shn.1 hj.shn.2 jn.tv3 (fun x u => ?_) (by omega)).mono (fun r M' q => ?_)
  · have := wt_h (t := t) x (by unfold Tre T4 at u; omega) (by unfold Tre T4 at u; omega)
    omega
  obtain ⟨ix, q⟩ := q
  rcases q with e | ⟨X, pt, ⟨c, e18, c3⟩, ti⟩
  · exact h.rd ⟨e, ix⟩
  · exact ⟨ix, hj.gox X (fun x u => tsh_lo u) (fun x u => u) ti ⟨⟨pt.2.1.1, pt.2.1.2, pt.2.2.2.2⟩, c, e18, by omega⟩⟩
end NCY
end
section
/-! The class at rest: its game changes; choose, adopt. -/
section NCZ
variable {G : mG} {d t x n cn cc bc cn' cc' bc' T Kt N A B D Cw p O P K p' O' P' K' Ab Be Cm U Ag Bg Cg U1 Ag1 Bg1 Cg1 Ps Pc Ps1 Pc1 z : Nat} {M M' M1 : mM} {Z Y C C1 : Nat → Prop} {v v' R k Rn kn : Nat → Nat} {Ls L L' l1 l2 m m' : List Nat} {c9 c8 : tG9}
/-- a step and its room -/
def stp (C : Nat → Prop) (Ps Pc : Nat) (M : mM) (C1 : Nat → Prop) (Ps1 Pc1 : Nat) (M' : mM) : Prop := FC C M M' ∧ (∀ x, C1 x → C x ∨ (mZ M ≤ x ∧ x < mZ M')) ∧ mS M' + Ps ≤ mS M + Ps1 ∧ 64 * mZ M' + Pc ≤ 64 * mZ M + Pc1
/-- some cells of a list of cells are other ones -/
theorem nd_mid (h : (l1 ++ (m ++ l2)).Nodup) (h1 : ∀ x, x ∈ l1 → x < z) (h2 : ∀ x, x ∈ l2 → x < z) (hm : ∀ x, x ∈ m' → x ∈ m ∨ z ≤ x) (nd : m'.Nodup) : (l1 ++ (m' ++ l2)).Nodup := by
  rw [List.nodup_append, List.nodup_append] at h ⊢
  obtain ⟨a1, ⟨a2, a3, a4⟩, a5⟩ := h
  refine ⟨a1, ⟨nd, a3, fun x hx y hy e => ?_⟩, fun x hx y hy e => ?_⟩
  · rcases hm x hx with u | u
    · exact a4 x u y hy e
    · have := h2 y hy; omega
  · rcases List.mem_append.mp hy with u | u
    · rcases hm y u with w | w
      · exact a5 x hx y (List.mem_append.mpr (Or.inl w)) e
      · have := h1 x hx; omega
    · exact a5 x hx y (List.mem_append.mpr (Or.inr u)) e
/-- the numbers' side when the game is another -/
theorem Ns.game (h : Ns Z t Ls v R k cn cc bc M) (o : mOk M') (f : FC Y M M') (hY : ∀ x, Y x → ¬ Z x) (hp : ¬ Y (t + 235)) (zp : t + 235 < mZ M) (hr : ∀ i, 9 ≤ i → mR M' t i = mR M t i) (i18 : mI M' t 18 = mI M t 18) (gk : GK M' (t + 62)) (gt : GTT M' (t + 62) cn' cc' bc') (tk : ∀ i, i < 4 → i ≠ 2 → mI M (v i) 1 = 0 ∨ cn' = cn ∨ cn' = 0) (ch : mI M (v 0) 1 ≠ 0 → Chs M' (t + 85) (t + 62) cn') : Ns Z t Ls v R k cn' cc' bc' M' ∧ (Pn Ls k M' = Pn Ls k M ∧ Qn Ls k M' = Qn Ls k M) := by
  obtain ⟨h1, h2, h3, h4, h5, ⟨h6, h6', h6z⟩, h7, h8⟩ := h
  have nz : ∀ x, Z x → ¬ Y x := fun x a b => hY x b a
  have bz := h1.2.2.1
  have ks := f.ks h1 (fun x u => Or.inl (nz x (zm_in h2 x u)))
  have vI : ∀ i, i < 4 → mI M' (v i) = mI M (v i) := fun i hi => (f.sm (h1.2.1.1 i hi).1.2.2.2.2.1.1.1 (nz _ (h2.2.2.1 i hi).1)).2.2.2
  have sp := f.sm zp hp
  obtain ⟨N, cps⟩ := h1.keep ks ⟨o, h1.1.1.2.1.sm ks.2.1, gk.gk9.1, gk.gk9.2, gt⟩ (fun i hi i2 => (tk i hi i2).imp (fun e => by rw [vI i hi]; exact e) (fun e => e.imp (fun e => ⟨by rw [vI i hi], e⟩) id))
  exact ⟨⟨N, ks.cnu f h2, h3.cg (f.2 t h3.2.2.2.2).1 hr f.1.1, by rw [vI 2 (by decide)]; exact h4, fun u => ch (by rw [← vI 0 (by decide)]; exact u), ⟨h6, h6'.sm (f.sm h6'.1.2.2 (nz _ h6z)) f.1.1, h6z⟩, by unfold Pch; rw [sp.1, sp.2.1, sp.2.2.2]; exact h7, by rw [i18]; exact h8⟩, pn_cg cps⟩
/-- cells of the game and of the top -/
def Yg (t Ag Bg x : Nat) : Prop := x = t ∨ (t + 62 ≤ x ∧ x < t + 85) ∨ x = Ag ∨ x = Bg
theorem nd9g {T A B D O P O' P' Ab Be Ag Bg : Nat} (nd : [T, A, B, D, O, P, O', P', Ab, Be, Ag, Bg].Nodup) : (T ≠ Ag ∧ T ≠ Bg) ∧ (O ≠ Ag ∧ O ≠ Bg) ∧ (P ≠ Ag ∧ P ≠ Bg) := by
  simp only [List.nodup_cons, List.mem_cons, not_or, List.not_mem_nil, not_false_eq_true, and_true] at nd
  obtain ⟨⟨-, -, -, -, -, -, -, -, -, t1, t2⟩, -, -, -, ⟨-, -, -, -, -, o1, o2⟩, ⟨-, -, -, -, p1, p2⟩, -⟩ := nd
  exact ⟨⟨t1, t2⟩, ⟨o1, o2⟩, p1, p2⟩
theorem yl1 {t A B x : Nat} (pA : A = t + 72 + 3 ∨ t + 236 ≤ A) (pB : B = t + 72 + 4 ∨ t + 236 ≤ B) (h : (t + 2 ≤ x ∧ x < t + 62) ∨ (t + 85 ≤ x ∧ x < t + 236)) (u : x = t ∨ (t + 62 ≤ x ∧ x < t + 85) ∨ x = A ∨ x = B) : False := by
  rcases u with u | u | u | u
  · clear pA pB; omega
  · clear pA pB; omega
  · clear pB; omega
  · clear pA; omega
theorem yl2 {t A B x : Nat} (h : x ≠ t ∧ ¬ (t + 62 ≤ x ∧ x < t + 85)) (a : x ≠ A ∧ x ≠ B) (u : x = t ∨ (t + 62 ≤ x ∧ x < t + 85) ∨ x = A ∨ x = B) : False := by
  rcases u with u | u | u | u
  · exact h.1 u
  · exact h.2 u
  · exact a.1 u
  · exact a.2 u
theorem yl3 {t x : Nat} (h : x = t + 1 ∨ t + 236 ≤ x) : x ≠ t ∧ ¬ (t + 62 ≤ x ∧ x < t + 85) := by omega
theorem yl4 {t p p' O i : Nat} (o : O = p + i ∨ t + 236 ≤ O) (hi : i ≤ 2) (pp : (p = t + 30 ∧ p' = t + 46) ∨ (p = t + 46 ∧ p' = t + 30)) : O ≠ t ∧ ¬ (t + 62 ≤ O ∧ O < t + 85) := by omega
theorem yg_lo (h : Ap Z C t T A B D O P O' P' Ab Be Ag Bg M) (hx : Tx c9 t T Kt N A B D Cw p O P K p' O' P' K' Ab Be Cm M) (hm : MK M (t + 236) (t + 72) U Ag Bg Cg) : (∀ x, t + 2 ≤ x → x < t + 62 → ¬ Yg t Ag Bg x) ∧ (¬ Yg t Ag Bg T ∧ ¬ Yg t Ag Bg O ∧ ¬ Yg t Ag Bg P) ∧ (∀ x, Yg t Ag Bg x → C x ∧ ¬ Z x) ∧ ¬ Yg t Ag Bg (t + 235) ∧ (∀ x, t + 85 ≤ x → x < t + 236 → ¬ Yg t Ag Bg x) := by
  obtain ⟨z1, -⟩ := h.nz
  obtain ⟨c1, c2, c3⟩ := h.oc
  have o4 := hx.2.2.2.2.1.2.2.2.1
  have pp := hx.2.2.2.2.2.1
  have pT := h.2.2.1.1
  have ab := hm.2.2.2.2.2.1
  have hn := h.1
  have nd := h.2.1
  clear hx hm
  obtain ⟨a1, a2, a3⟩ := nd9g nd
  obtain ⟨b1, b2, -⟩ := ab
  clear nd h
  unfold Yg
  refine ⟨fun x a b u => yl1 b1 b2 (Or.inl ⟨a, b⟩) u, ⟨fun u => yl2 (yl3 pT) a1 u, fun u => yl2 (yl4 o4.1 (by decide) pp) a2 u, fun u => yl2 (yl4 o4.2.1 (by decide) pp) a3 u⟩, fun x u => ?_, fun u => yl1 b1 b2 (Or.inr ⟨by omega, by omega⟩) u, fun x a b u => yl1 b1 b2 (Or.inr ⟨a, b⟩) u⟩
  rcases u with u | u | u | u
  · rw [u]; exact ⟨(c1 t (by omega) (by omega)).1, z1 t (by omega) (by omega)⟩
  · exact ⟨(c1 x (by omega) (by omega)).1, z1 x (by omega) (by omega)⟩
  · rw [u]; exact ⟨(c3 Ag (by simp)).1, hn _ (Or.inr (Or.inr (by simp)))⟩
  · rw [u]; exact ⟨(c3 Bg (by simp)).1, hn _ (Or.inr (Or.inr (by simp)))⟩
/-- the game's arrays may be new -/
theorem Ap.game (h : Ap Z C t T A B D O P O' P' Ab Be Ag Bg M) (hz : mZ M ≤ mZ M') (e1 : Ag1 = Ag ∨ (mZ M ≤ Ag1)) (e2 : Bg1 = Bg ∨ (mZ M ≤ Bg1)) (z1 : Ag1 < mZ M' ∧ Bg1 < mZ M') (ne : Ag1 ≠ Bg1) : Ap Z (Zn C M M') t T A B D O P O' P' Ab Be Ag1 Bg1 M' := by
  obtain ⟨c1, c2, c3⟩ := h.oc
  have nd : ([T, A, B, D, O, P, O', P', Ab, Be] ++ ([Ag, Bg] ++ [])).Nodup := h.2.1
  have nd' : ([T, A, B, D, O, P, O', P', Ab, Be] ++ ([Ag1, Bg1] ++ [])).Nodup := nd_mid nd (z := mZ M) (fun x hx => (c3 x (List.mem_append.mpr (Or.inl hx) : x ∈ [T, A, B, D, O, P, O', P', Ab, Be] ++ [Ag, Bg])).2) (fun x hx => absurd hx List.not_mem_nil) (fun x hx => by
    rcases List.mem_cons.mp hx with u | u
    · rw [u]; exact e1.imp (fun e => by rw [e]; simp) id
    · rw [List.mem_singleton.mp u]; exact e2.imp (fun e => by rw [e]; simp) id) (by simp [ne])
  refine h.re hz nd' h.2.2.1 (fun x hx => ?_)
  rcases List.mem_append.mp (show x ∈ [T, A, B, D, O, P, O', P', Ab, Be] ++ [Ag1, Bg1] from hx) with u | u
  · exact Or.inl (List.mem_append.mpr (Or.inl u) : x ∈ [T, A, B, D, O, P, O', P', Ab, Be] ++ [Ag, Bg])
  · rcases List.mem_cons.mp u with u | u
    · rcases e1 with e | e
      · rw [u, e]; exact Or.inl (by simp)
      · rw [u]; exact Or.inr ⟨e, z1.1⟩
    · rcases e2 with e | e
      · rw [List.mem_singleton.mp u, e]; exact Or.inl (by simp)
      · rw [List.mem_singleton.mp u]; exact Or.inr ⟨e, z1.2⟩
theorem rmc_game {S1 : Nat} (h6 : Rmc Kt Cw K K' Cm Cg Ps Pc Ls k M) (pe : Pn Ls k M' = Pn Ls k M ∧ Qn Ls k M' = Qn Ls k M) (r1 : mS M' + 4 * Cg ≤ mS M + 4 * Cg1) (r2 : 64 * mZ M' + 2 * Cg ≤ 64 * mZ M + 2 * Cg1) : Rmc Kt Cw K K' Cm Cg1 (Ps + 4 * Cg1 - 4 * Cg) (Pc + 2 * Cg1 - 2 * Cg) Ls k M' ∧ mS M' + Ps ≤ mS M + (Ps + 4 * Cg1 - 4 * Cg) ∧ 64 * mZ M' + Pc ≤ 64 * mZ M + (Pc + 2 * Cg1 - 2 * Cg) := by
  unfold Rmc at h6 ⊢
  rw [pe.1, pe.2]
  exact ⟨⟨by omega, by omega, h6.2.2⟩, by omega, by omega⟩
/-- a step of the game, in the class -/
theorem CJ.game (hj : CJ c9 C n t Ps Pc T Kt N A B D Cw p O P K p' O' P' K' Ab Be Cm U Ag Bg Cg cn cc bc Ls v R k Z M) (o : mOk M') (f : FC (Yg t Ag Bg) M M') (rt : mR M' t = mR M t) (i1 : mI M' t 1 = mI M t 1) (i6 : mI M' t 6 = mI M t 6) (i18 : mI M' t 18 = mI M t 18) (gm : Gm t U1 Ag1 Bg1 Cg1 cn' cc' bc' (n + 1) M') (e1 : Ag1 = Ag ∨ mZ M ≤ Ag1) (e2 : Bg1 = Bg ∨ mZ M ≤ Bg1) (tk : ∀ i, i < 4 → i ≠ 2 → mI M (v i) 1 = 0 ∨ cn' = cn ∨ cn' = 0) (ch : mI M (v 0) 1 ≠ 0 → Chs M' (t + 85) (t + 62) cn') (r1 : mS M' + 4 * Cg ≤ mS M + 4 * Cg1) (r2 : 64 * mZ M' + 2 * Cg ≤ 64 * mZ M + 2 * Cg1) (tx6 : 1 ≤ cn' → mI M t 6 ≠ 0) : ∃ Ps1 Pc1, CJ c9 (Zn C M M') (n + 1) t Ps1 Pc1 T Kt N A B D Cw p O P K p' O' P' K' Ab Be Cm U1 Ag1 Bg1 Cg1 cn' cc' bc' Ls v R k Z M' ∧ stp C Ps Pc M (Zn C M M') Ps1 Pc1 M' := by
  obtain ⟨-, ⟨lt1, lt2⟩, -⟩ := hj.top
  obtain ⟨h1, h2, h3, h4, h5, h6, h7⟩ := hj
  obtain ⟨y1, ⟨y3, y4, y5⟩, y6, y7, y8⟩ := yg_lo h5 h2 h3.2.1
  have tx := h2.fc o f y1 y3 y4 y5 (fun i _ => by rw [rt]) i1 i6
  obtain ⟨ns, pq⟩ := h4.game o f (fun x u => (y6 x u).2) y7 lt2 (fun i _ => by rw [rt]) i18 gm.1 (gm.2.2.2.2.2.1.gtt gm.2.2.2.2.2.2.2) tk ch
  have mk := gm.2.1.2.2.2.2.2
  have ap := h5.game f.1.1 e1 e2 ⟨mk.2.1.2.1, mk.2.1.2.2.1⟩ mk.1.2.2.1
  obtain ⟨rm, s1, s2⟩ := rmc_game (S1 := 0) h6 pq r1 r2
  exact ⟨_, _, ⟨o, tx, gm, ns, ap, rm, by rw [i6]; exact tx6⟩, f.mono (fun x _ u => (y6 x u).1), fun x u => u, s1, s2⟩
theorem CJ.q (hj : CJ c9 C1 (n + 1) t Ps1 Pc1 T Kt N A B D Cw p O P K p' O' P' K' Ab Be Cm U Ag Bg Cg cn cc bc Ls v R k Z M') (s : stp C Ps Pc M C1 Ps1 Pc1 M') : cQ0 c9 C n t Ps Pc M M' := ⟨C1, Ps1, Pc1, ⟨T, Kt, N, A, B, D, Cw, p, O, P, K, p', O', P', K', Ab, Be, Cm, U, Ag, Bg, Cg, cn, cc, bc, Ls, v, R, k, Z, hj⟩, s⟩
/-- choices are told, in the class -/
theorem CJ.told (hj : CJ c9 C n t Ps Pc T Kt N A B D Cw p O P K p' O' P' K' Ab Be Cm U Ag Bg Cg cn cc bc Ls v R k Z M) (o : mOk M') (f : FI (fun x => x = t + 62 + 3) M M') (gs : 1 ≤ cn → GS M' (t + 62) (cn - 1)) : cQ c9 C n t Ps Pc M M' := by
  have fc : FC (Yg t Ag Bg) M M' := f.fc (fun x u => by have u' : x = t + 62 + 3 := u; unfold Yg; omega)
  have ne : ∀ x, x ≠ t + 65 → mI M' x = mI M x := fun x hx => f.2.2.2.2.2.2 x hx
  have et := ne t (by omega)
  have g3 := hj.2.2.1
  have jn := hj.2.2.2.1
  obtain ⟨g1, g2, g4, g5, g6, g7, g8, g9⟩ := g3.up
  obtain ⟨Ps1, Pc1, q1, q2⟩ := hj.game o fc (by rw [f.2.2.1]) (by rw [et]) (by rw [et]) (by rw [et]) ⟨g1.eq2 (fun i _ => ⟨by rw [f.1], by rw [f.2.1]⟩) (fun i _ => by rw [f.2.2.1]), g2.fi f (by rw [ne _ (by omega)]), g4, by rw [ne (t + 77) (by omega), ne (t + 72) (by omega)]; exact g5, by rw [ne (t + 72) (by omega)]; exact g6, g7.told f, gs, g9.1, fun j hj => by rw [ne _ (by omega)]; exact g9.2 j hj⟩ (Or.inl rfl) (Or.inl rfl) (fun _ _ _ => Or.inr (Or.inl rfl)) (fun u => chs_same (jn.2.2.2.2.1 u) (ne _ (by omega)) (ne _ (by omega))) (by rw [f.2.2.2.2.2.1]; exact Nat.le_refl _) (by rw [f.2.2.2.2.1]; exact Nat.le_refl _) hj.2.2.2.2.2.2
  have v65 : v 0 ≠ t + 65 := fun e => (hj.2.2.2.2.1.nz).1 (t + 65) (by omega) (by omega) (by rw [← e]; exact hj.vz)
  exact ⟨q1.q q2, by rw [et], by rw [et], by rw [et], fun i _ i3 => ne _ (by omega), hj.knf (by rw [f.2.2.1]) (by rw [ne _ v65])⟩
theorem c_CA_choose {l1 l2 : Int} (i1 : i32 l1) (i2 : i32 l2) (h : CI c9 C n t Ps Pc M) (hp : cmdP M (t + 62) (mI M (t + 62) 0).toNat l1 l2) : Cv G y_CA_choose (d + 2) [vr t, vi l1, vi l2] M (fun M' => cQ c9 C n t Ps Pc M M') := by
  obtain ⟨T, Kt, N, A, B, D, Cw, p, O, P, K, p', O', P', K', Ab, Be, Cm, U, Ag, Bg, Cg, cn, cc, bc, Ls, v, R, k, Z, hj⟩ := h
  obtain ⟨-, -, e0⟩ := hj.top
  rw [e0, Int.toNat_natCast] at hp
  exact (g_CA_choose (d := d) i1 i2 hj.tg hj.2.2.1.2.2.2.2.2.2.1 hp).mono (fun M' q => hj.told q.1 q.2.1 (fun _ => q.2.2))
theorem c_CA_adopt (h : CI c9 C n t Ps Pc M) (kn : mI M (mR M t 11) 1 ≠ 0) : Cv G y_CA_adopt (d + 1) [vr t] M (fun M' => cQ c9 C n t Ps Pc M M') := by
  obtain ⟨T, Kt, N, A, B, D, Cw, p, O, P, K, p', O', P', K', Ab, Be, Cm, U, Ag, Bg, Cg, cn, cc, bc, Ls, v, R, k, Z, hj⟩ := h
  have jn := hj.2.2.2.1
  rw [jn.2.2.1.2.2.1.1] at kn
  exact (g_CA_adopt (d := d) (s := t + 85) hj.tg hj.2.2.1.2.2.2.2.2.2.1 jn.2.2.1.2.1.2 jn.1.1.1.2.1 ⟨jn.2.2.1.2.2.1.1, (jn.1.2.1.1 0 (by decide)).1.1⟩ kn (jn.2.2.2.2.1 kn)).mono (fun M' q => hj.told q.1 q.2.1 q.2.2)
end NCZ
end
section
/-! The class's program tells a game: what exploring it comes to. -/
section PGD
variable {z g p O P K V F1 L cnt Ab Be : Nat} {M : mM} {ns1 : Nat → Int} {sf1 ef1 : Nat → Nat} {X9 : xR9}
theorem pgm_dc (pg : Pgm X9 M p O P) (hw : PW M z p O P K V F1 ns1 sf1 ef1 L cnt) (hO : ¬ gaS g Ab Be O) (hP : ¬ gaS g Ab Be P) : ∃ (F : Nat) (ns : Nat → Int) (sf ef : Nat → Nat) (W pl nq : Nat → Int) (sm : Nat → Nat → Prop) (N n : Nat) (nms : List nm9) (tg : Nat × Nat) (cms : List cm9), gcx M g p O P L V F Ab Be ns sf ef W pl nq sm N n nms ∧ PGx M p O P L V cnt W pl nq sm n ns ef nms tg cms ∧ xpl9 (evq W pl nq sm N nms) (stpq W pl nq sm N nms V (mI M (p + 3)) (mI M (p + 4))) tg cms ((List.range V).map (mI M (p + 5))) = X9 := by
  obtain ⟨⟨W, pl, nq, sm, N, nms, gm⟩, c4, n, hq, ⟨L', ns, sf, ef, h1, h2, h3, h4, ⟨a1, a2, a3⟩, ⟨t1, t2⟩, h7, h8⟩, ⟨v3, v60, v12, ht⟩, hX⟩ := pg
  obtain ⟨pk, ⟨p2, -, -⟩, ⟨p3, -⟩, -, ⟨p12, -⟩, -⟩ := hw
  have eL : L' = L := by
    rw [p2] at h1
    omega
  subst eL
  have eV : vcn nms = V := by
    have v3 : mI M p 3 = ((vcn nms : Nat) : Int) := v3
    rw [p3] at v3
    omega
  have ec : gm.2.2.length = cnt := by
    have h7 : gm.2.2.length = c4.2.2.1 := h7
    have v12 : mI M p 12 = ((c4.2.2.1 : Nat) : Int) := v12
    rw [p12] at v12
    omega
  have eW : gm.1.length = V := a1.trans eV
  have vo : VlO nms gm.1 := ⟨a1, fun v x hx => ⟨(a2 v x hx).2.2.2.1, (a2 v x hx).2.2.2.2⟩, a3⟩
  obtain ⟨tg, htg⟩ : ∃ tg, gm.2.1 = some tg := by
    cases e : gm.2.1 with
    | none => exact absurd (t1 e) ht
    | some tg => exact ⟨tg, rfl⟩
  refine ⟨rcn nms, ns, sf, ef, W, pl, nq, sm, N, n, nms, tg, gm.2.2, ⟨⟨hO, hP, pk.2.2.2.2.1.2.1, pk.2.2.2.2.1.2.2, v60⟩, hq, h2, h3, rfl, eV⟩, ⟨fun l1 e l2 he e3 => ?_, fun l1 e l2 he e3 => ?_, t2 tg htg, ec, fun c cm hc => ?_⟩, ?_⟩
  · obtain ⟨x, hx, -, b1, -, b3⟩ := vlo_get vo he e3
    obtain ⟨y3, y4, -⟩ := a2 _ x hx
    rw [y3, y4]
    exact ⟨b1, b3⟩
  · obtain ⟨x, hx, -, b1, b2, b3⟩ := vlo_get vo he e3
    obtain ⟨-, -, y5, -⟩ := a2 _ x hx
    rw [y5]
    exact ⟨by omega, fun u => by have := b3 u; omega⟩
  · rw [← eV]
    exact h8 c cm hc
  · have eS : (List.range V).map (mI M (p + 5)) = gm.1.map (fun x => x.2.2) := by
      refine List.ext_getElem? (fun v => ?_)
      by_cases y : v < V
      · have hx := List.getElem?_eq_getElem (l := gm.1) (i := v) (by rw [eW]; exact y)
        rw [List.getElem?_map, List.getElem?_range y, List.getElem?_map, hx]
        exact congrArg some (a2 v _ hx).2.2.1
      · rw [List.getElem?_eq_none (by rw [List.length_map, List.length_range]; omega), List.getElem?_eq_none (by rw [List.length_map, eW]; omega)]
    rw [hX, eS]
    have eX : XpG (W, pl, nq, sm, N, nms, gm) = xpl9 (evq W pl nq sm N nms) (stpq W pl nq sm N nms V (fun v => (gm.1.getD v (0, 0, 0)).1) (fun v => (gm.1.getD v (0, 0, 0)).2.1)) tg gm.2.2 (gm.1.map (fun x => x.2.2)) := by
      rw [← eW]
      show xpl9 _ _ (gm.2.1.getD (0, 0)) _ _ = _
      rw [htg]
      rfl
    rw [eX]
    refine xpl_cg (fun sg => rfl) (fun cm hc => ⟨fun sg => rfl, fun b hb => ⟨fun sg => rfl, fun sg => stpq_lo (fun q hq9 => ?_)⟩⟩)
    obtain ⟨c, hc'⟩ := List.getElem?_of_mem hc
    obtain ⟨b', hb'⟩ := List.getElem?_of_mem hb
    obtain ⟨-, -, -, -, u, v, -, -, -, -, d10⟩ := h8 c cm hc'
    obtain ⟨-, -, s2, -, r, l', e9, -, d11, -⟩ := d10 b' b hb'
    obtain ⟨-, -, -, lt, -⟩ := d11 q hq9
    have lt' : q.1 < V := by
      rw [← eV]
      exact lt
    have hx := List.getElem?_eq_getElem (l := gm.1) (i := q.1) (by rw [eW]; exact lt')
    obtain ⟨y3, y4, -⟩ := a2 _ _ hx
    have gd : gm.1.getD q.1 (0, 0, 0) = gm.1[q.1]'(by rw [eW]; exact lt') := by
      rw [List.getD_eq_getElem?_getD, hx]
      rfl
    show mI M (p + 3) q.1 = (gm.1.getD q.1 (0, 0, 0)).1 ∧ mI M (p + 4) q.1 = (gm.1.getD q.1 (0, 0, 0)).2.1
    rw [gd]
    exact ⟨y3, y4⟩
end PGD
end
section
/-! A state has at most as many commands as the text. -/
section SXT
variable {ev : List Int → Nat → Nat → vrs} {stp : List Int → List (Nat × Nat × Nat × Nat) → (Int × Int) × List Int} {sg : List Int} {nb c : Nat} {cm : cm9} {s : sl9} {cms : List cm9} {tg : Nat × Nat} {M : mM} {g cn : Nat}
theorem tcq_len : (tcq9 ev stp sg nb c cm s).2.2.2.length ≤ s.2.2.2.length + 1 := by
  unfold tcq9
  repeat' split
  all_goals first | exact Nat.le_succ _ | (rw [List.length_append]; exact Nat.le_refl _)
theorem tsq_len : ∀ (l : List cm9) (c : Nat) (s : sl9), (tsq9 ev stp sg nb l c s).2.2.2.length ≤ s.2.2.2.length + l.length
  | [], _, _ => Nat.le_refl _
  | cm :: l, c, s => by
    by_cases h : s.1.1 ≠ 0
    · rw [tsq_f h]; exact Nat.le_add_right _ _
    · have e : tsq9 ev stp sg nb (cm :: l) c s = tsq9 ev stp sg nb l (c + 1) (tcq9 ev stp sg nb c cm s) := if_neg h
      rw [e]
      have a := tsq_len l (c + 1) (tcq9 ev stp sg nb c cm s)
      have b := tcq_len (ev := ev) (stp := stp) (sg := sg) (nb := nb) (c := c) (cm := cm) (s := s)
      show _ ≤ s.2.2.2.length + (l.length + 1)
      omega
theorem ssq_len {S : List (List Int)} : (ssq9 ev stp tg cms sg nb S).2.2.2.length ≤ cms.length := by
  by_cases h : (ev sg tg.1 tg.2).1 = 0
  · by_cases h1 : (ev sg tg.1 tg.2).2.1 = 0
    · rw [ssq_n h h1]
      have a : (tsq9 ev stp sg nb cms 0 ((0, 0), S, 0, [])).2.2.2.length ≤ 0 + cms.length := tsq_len cms 0 ((0, 0), S, 0, [])
      rw [Nat.zero_add] at a
      exact a
    · rw [ssq_t h h1]; exact Nat.zero_le _
  · rw [ssq_f h]; exact Nat.zero_le _
theorem exq_len : ∀ (f k : Nat) (S : List (List Int)) (T : xt9), (∀ x, x ∈ T → x.2.length ≤ cms.length) → ∀ x, x ∈ (exq9 ev stp tg cms f k S T).2.2.2 → x.2.length ≤ cms.length
  | 0, k, S, T, h => h
  | f + 1, k, S, T, h => by
    cases e : S[k]? with
    | none => rw [exq_n e]; exact h
    | some sg9 =>
      by_cases h1 : (ssq9 ev stp tg cms sg9 (nbx9 T) S).1.1 = 0
      · rw [exq_s e h1]
        refine exq_len f (k + 1) _ _ (fun x hx => ?_)
        rcases List.mem_append.mp hx with u | u
        · exact h x u
        · rw [List.mem_singleton.mp u]; exact ssq_len
      · rw [exq_f e h1]
        exact fun x hx => absurd hx List.not_mem_nil
theorem xtm_60 (h : ∀ x, x ∈ xtm M g cn → x.2.length ≤ 60) (hx : ∀ j, j < cn → ∃ x y : Nat, mI M (g + 4) j = ((x : Nat) : Int) ∧ mI M (g + 4) (j + 1) = ((y : Nat) : Int) ∧ x ≤ y) : ∀ j, j < cn → mI M (g + 4) (j + 1) ≤ mI M (g + 4) j + 60 := fun j hj => by
  obtain ⟨x, y, e1, e2, xy⟩ := hx j hj
  have m := h (stm M g j) (by rw [xtm_map]; exact List.mem_map.mpr ⟨j, List.mem_range.mpr hj, rfl⟩)
  have m2 : (cml M g (mI M (g + 4) j).toNat ((mI M (g + 4) (j + 1)).toNat - (mI M (g + 4) j).toNat)).length ≤ 60 := m
  rw [cml_map, List.length_map, List.length_range, e1, e2, Int.toNat_natCast, Int.toNat_natCast] at m2
  rw [e1, e2]
  omega
end SXT
end
section
/-! The class at rest: what is known is forgotten; explore. -/
section NDA
variable {G : mG} {d t x n g s b cn cc bc cn' cc' bc' T Kt N A B D Cw p O P K p' O' P' K' Ab Be Cm U Ag Bg Cg U1 Ag1 Bg1 Cg1 Ps Pc Ps1 Pc1 Ps2 Pc2 z : Nat} {M M' M1 : mM} {Z Y C C1 C2 S : Nat → Prop} {v v' R k Rn kn : Nat → Nat} {Ls L : List Nat} {W : Nat → Nat} {c9 c8 : tG9}
theorem stp.trans (h : stp C Ps Pc M C1 Ps1 Pc1 M1) (q : stp C1 Ps1 Pc1 M1 C2 Ps2 Pc2 M') : stp C Ps Pc M C2 Ps2 Pc2 M' := by
  obtain ⟨h1, h2, h3, h4⟩ := h
  obtain ⟨q1, q2, q3, q4⟩ := q
  have a := h1.1.1
  have b := q1.1.1
  refine ⟨h1.trans (q1.mono (fun x _ u => h2 x u)), fun x u => ?_, by omega, by omega⟩
  rcases q2 x u with w | w
  · rcases h2 x w with y | y
    · exact Or.inl y
    · exact Or.inr ⟨y.1, by omega⟩
  · exact Or.inr ⟨by omega, w.2⟩
theorem cQ0.pre (h : stp C Ps Pc M C1 Ps1 Pc1 M1) (q : cQ0 c9 C1 n t Ps1 Pc1 M1 M') : cQ0 c9 C n t Ps Pc M M' := by
  obtain ⟨C2, Ps2, Pc2, q1, q2⟩ := q
  exact ⟨C2, Ps2, Pc2, q1, h.trans q2⟩
/-- the ghost of what was explored is free here -/
theorem cQ0.e9 {e : tE9} (h : cQ0 c9 C n t Ps Pc M M') : cQ0 (c9.1, c9.2.1, c9.2.2.1, c9.2.2.2.1, c9.2.2.2.2.1, c9.2.2.2.2.2.1, e) C n t Ps Pc M M' := by
  obtain ⟨C', Ps', Pc', ⟨T, Kt, N, A, B, D, Cw, p, O, P, K, p', O', P', K', Ab, Be, Cm, U, Ag, Bg, Cg, cn, cc, bc, Ls, v, R, k, Z, h1, ⟨w1, w2, w3, w4, w5, w6, w7, w8⟩, h3⟩, h4⟩ := h
  exact ⟨C', Ps', Pc', ⟨T, Kt, N, A, B, D, Cw, p, O, P, K, p', O', P', K', Ab, Be, Cm, U, Ag, Bg, Cg, cn, cc, bc, Ls, v, R, k, Z, h1, ⟨w1, w2, w3, w4, w5, w6, w7, w8⟩, h3⟩, h4⟩
theorem cQ0.e8 {k : Int} (h : cQ0 c9 C n t Ps Pc M M') : cQ0 (c9.1, kn9 c9.2 k) C n t Ps Pc M M' := cQ0.e9 (e := ((c9.2.2.2.2.2.2.1.1, c9.2.2.2.2.2.2.1.2.1, k), c9.2.2.2.2.2.2.2)) h
/-- ints of other cells, and the Solver -/
theorem Sb.fi (h : Sb L W s g cn cc bc M) (f : FI S M M') (o : mOk M') (hS : ∀ x, S x → Oc L M x) (hg : ∀ i, i ≤ 9 → ¬ S (g + i)) : Sb L W s g cn cc bc M' := by
  obtain ⟨hsg, ⟨hF, hSK, hRs, hfw⟩, hSt, hgo⟩ := h
  obtain ⟨xx, -⟩ := f.nx (T := fun _ => False) (r := False) (z := s + 1) o hF (fun _ u => u.elim) hS hSK.z9
  refine ⟨hsg.fi f o hg, ⟨xx.nf, xx.sk hF hSK, ?_, hfw.fi f⟩, fun x hx => (hSt x hx).fi f, fun i hi => (hgo i hi).fi f⟩
  obtain ⟨r1, r2, r3, r4⟩ := hRs
  exact ⟨r1.fi f, fun i hi => (r2 i hi).fi f, fun i hi => by rw [f.2.2.1]; exact r3 i hi, r4⟩
/-- what is known is forgotten -/
theorem CJ.forget (hj : CJ c9 C n t Ps Pc T Kt N A B D Cw p O P K p' O' P' K' Ab Be Cm U Ag Bg Cg cn cc bc Ls v R k Z M) (o : mOk M') (f : FI (Sfg (v 0) (v 1) (v 3)) M M') (e0 : mI M' (v 0) 1 = 0) (e1 : mI M' (v 1) 1 = 0) (e3 : mI M' (v 3) 1 = 0) : CJ c9 C n t Ps Pc T Kt N A B D Cw p O P K p' O' P' K' Ab Be Cm U Ag Bg Cg cn cc bc Ls v R k Z M' ∧ stp C Ps Pc M C Ps Pc M' ∧ (∀ i, i < 4 → mI M' (v i) 1 = 0) ∧ mI M' t = mI M t := by
  obtain ⟨⟨z1, z2⟩, ⟨lt1, lt2⟩, -⟩ := hj.top
  obtain ⟨h1, h2, h3, h4, h5, h6, h7⟩ := hj
  obtain ⟨y1, y2, ⟨y3, y4, y5⟩, y6⟩ := yn_lo h5 h2
  obtain ⟨n1, n2, n3, n4, n5, n6, n7, n8⟩ := h4
  have sv : ∀ x, Sfg (v 0) (v 1) (v 3) x → ∃ i, i < 4 ∧ i ≠ 2 ∧ x = v i := fun x u => by
    rcases u with u | u | u
    · exact ⟨0, by decide, by decide, u⟩
    · exact ⟨1, by decide, by decide, u⟩
    · exact ⟨3, by decide, by decide, u⟩
  have fz : FC Z M M' := f.fc (fun x u => by
    obtain ⟨i, hi, -, e⟩ := sv x u
    rw [e]; exact (n2.2.2.1 i hi).1)
  have sS : ∀ x, Sfg (v 0) (v 1) (v 3) x → Oc Ls M x ∧ mK M x = 13 := fun x u => by
    obtain ⟨i, hi, -, e⟩ := sv x u
    rw [e]; exact ⟨(n1.2.1.1 i hi).1.2.2.2.2.1.1, (n1.2.1.1 i hi).1.1⟩
  have gS : ∀ i, i ≤ 9 → ¬ Sfg (v 0) (v 1) (v 3) (t + 62 + i) := fun i hi u => by
    obtain ⟨j, hj, -, e⟩ := sv _ u
    exact (y2 (t + 62 + i) (by omega) (by omega)) (Or.inl (by rw [e]; exact (n2.2.2.1 j hj).1))
  have v2 : mI M' (v 2) = mI M (v 2) := f.2.2.2.2.2.2 _ (fun u => by
    obtain ⟨j, hj, j2, e⟩ := sv _ u
    exact (n1.2.1.2 2 j (by decide) hj (fun e => j2 e.symm)).2.1 e)
  have all : ∀ i, i < 4 → mI M' (v i) 1 = 0 := fun i hi => by
    have : i = 0 ∨ i = 1 ∨ i = 2 ∨ i = 3 := by omega
    rcases this with e | e | e | e <;> subst e
    · exact e0
    · exact e1
    · rw [v2]; exact n4
    · exact e3
  have N := n1.fi f o (fun x u => ⟨(sS x u).1, by rw [(sS x u).2]; decide⟩) (n1.1.fi f o (fun x u => (sS x u).1) gS) (fun j hj _ => Or.inr (all j hj))
  obtain ⟨-, er, ei⟩ := (fz.2 t lt1).2.2 z1
  have sp := fz.sm lt2 z2
  have zz : mZ M' = mZ M ∧ mS M' = mS M := ⟨f.2.2.2.2.1, f.2.2.2.2.2.1⟩
  have pe : Pn Ls k M' = Pn Ls k M ∧ Qn Ls k M' = Qn Ls k M := pn_cg (fun a _ => by unfold cp; rw [f.2.2.1, f.2.1])
  have c' : Cnu Z Ls (t + 85) v R k M' := ⟨n2.1, fun a ha => by rw [f.2.2.1]; exact n2.2.1 a ha, fun i hi => by rw [f.2.2.1]; exact n2.2.2.1 i hi, n2.2.2.2.1, n2.2.2.2.2.1.fi f, n2.2.2.2.2.2.fi f⟩
  have fy := fz.yn (t := t)
  refine ⟨⟨o, h2.fc o fy y1 y3 y4 y5 (fun i _ => by rw [er]) (by rw [ei]) (by rw [ei]), h3.fc fy y2, ⟨N, c', n3.cg (fz.2 t lt1).1 (fun i _ => by rw [er]) fz.1.1, all 2 (by decide), fun u => absurd e0 u, ⟨n6.1, n6.2.1.fi f, n6.2.2⟩, by unfold Pch; rw [sp.1, sp.2.1, sp.2.2.2]; exact n7, by rw [ei]; exact n8⟩, h5.mz fz.1.1, ?_, by rw [ei]; exact h7⟩, ⟨fz.mono (fun x _ u => y6 x (Or.inl u)), fun x u => Or.inl u, by rw [zz.2]; exact Nat.le_refl _, by rw [zz.1]; exact Nat.le_refl _⟩, all, ei⟩
  unfold Rmc
  rw [pe.1, pe.2]
  exact h6
theorem yg_t {M9 M20 M28 : mM} {a b : Int} (f : FC (Yg t Ag Bg) M M9) (e1 : M20 = mUI M9 t 7 a) (e2 : M28 = mUI M20 t 8 b) : FC (Yg t Ag Bg) M M28 ∧ FI (fun x => x = t) M9 M28 ∧ ∀ i, i ≠ 7 → i ≠ 8 → mI M28 t i = mI M9 t i := by
  have f1 : FI (fun x => x = t) M9 M20 := by rw [e1]; exact FI.ui rfl
  have f2 : FI (fun x => x = t) M20 M28 := by rw [e2]; exact FI.ui rfl
  have ff := f1.trans f2
  refine ⟨f.trans (ff.fc (fun x u => Or.inl (Or.inl u))), ff, fun i a b => ?_⟩
  rw [e2, mI_UI, if_neg (fun u => b u.2), e1, mI_UI, if_neg (fun u => a u.2)]
/-- the game's side, when ints of the top change -/
theorem Gm.fit (h : Gm t U Ag Bg Cg cn cc bc n M) (f : FI (fun x => x = t) M M') : Gm t U Ag Bg Cg cn cc bc n M' := h.fc (f.fc (fun _ u => u)) (fun x a b u => by omega)
theorem c_CA_explore (hF : FMs G) (hn : n ≤ 1000) (h : CI c9 C n t Ps Pc M) (c6 : mI M t 6 ≠ 0) : Ci G y_CA_explore (d + 8) [vr t] M (fun r M' => i32 r ∧ (cQ0 (c9.1, exp9 c9.2) C n t Ps Pc M M' ∧ mI M' t 1 = mI M t 1 ∧ XC (exp9 c9.2) M' t) ∧ r = c9.2.2.2.2.2.1.1.1) := by
  obtain ⟨T, Kt, N, A, B, D, Cw, p, O, P, K, p', O', P', K', Ab, Be, Cm, U, Ag, Bg, Cg, cn, cc, bc, Ls, v, R, k, Z, hj⟩ := h
  have jn := hj.2.2.2.1
  obtain ⟨⟨z1, -⟩, -, -⟩ := hj.top
  have tv := jn.tv3
  have nt : ∀ i, i < 4 → t ≠ v i := fun i hi e => z1 (by rw [e]; exact (jn.2.1.2.2.1 i hi).1)
  refine k_CA_explore hj.1 ⟨jn.2.2.1.1, fun u => absurd u c6, fun _ => (s_CA_forget (d := d + 7) (cn := cn) hj.1 jn.2.2.1.1 ⟨tv.1, tv.2.1.tb, tv.2.2.1.tb, tv.2.2.2.tb⟩ ⟨nt 0 (by decide), nt 1 (by decide), nt 3 (by decide)⟩).mono (fun M4 q => ?_)⟩
  obtain ⟨o4, f4, q0, q1, q3⟩ := q
  obtain ⟨hj4, st4, all4, et4⟩ := hj.forget o4 f4 q0 q1 q3
  clear hj tv nt
  obtain ⟨-, ⟨lt1, lt2⟩, -⟩ := hj4.top
  have tr4 := hj4.2.2.2.1.2.2.1
  have r44 := hj4.2.1.1.2.2.1
  rw [tr4.2.1.1, r44]
  obtain ⟨V, F, ns, sf, ef, L, cnt, hw⟩ := hj4.2.1.2.2.2.2.2.2.1 (by rw [et4]; exact c6)
  obtain ⟨g1, g2, g3, g4, g5, g6, g7, g8⟩ := id hj4.2.2.1
  have nd := hj4.2.2.2.2.1.2.1
  have pp := hj4.2.1.2.2.2.2.2.1
  have na : O ≠ Ag ∧ O ≠ Bg ∧ P ≠ Ag ∧ P ≠ Bg := ⟨fun e => by rw [e] at nd; simp at nd, fun e => by rw [e] at nd; simp at nd, fun e => by rw [e] at nd; simp at nd, fun e => by rw [e] at nd; simp at nd⟩
  have gz : GZ M4 (t + 236) (t + 62) p O P K V F ns sf ef L cnt U Ag Bg Cg := ⟨o4, g1, g2, g3, hw, ⟨by clear nd hj4; omega, by clear nd hj4; omega, na⟩, g4, ⟨g5.1, by clear nd hj4; have e : mI M4 (t + 62 + 10) 9 ≤ 512 * (n : Int) := g5.2; omega⟩⟩
  have nga : ∀ y, y ≠ Ag → y ≠ Bg → ¬ ((t + 62 ≤ y ∧ y ≤ t + 84)) → ¬ gaS (t + 62) Ag Bg y := fun y y1 y2 y3 u => by unfold gaS at u; omega
  have oo := hw.1.2.2.2.1
  have oa : ¬ (t + 62 ≤ O ∧ O ≤ t + 84) ∧ ¬ (t + 62 ≤ P ∧ P ≤ t + 84) := by clear nd hj4 gz; omega
  obtain ⟨F0, ns0, sf0, ef0, W0, pl0, nq0, sm0, N0, n0, nms0, tg0, cms0, cx, px, eX⟩ := pgm_dc (g := t + 62) (Ab := Ag) (Be := Bg) (hj4.2.1.2.2.2.2.2.2.2.2 (by rw [et4]; exact c6)).2.2.2 hw (nga O na.1 na.2.1 oa.1) (nga P na.2.2.1 na.2.2.2 oa.2)
  have gx := x_Ga_discover (d := d) (FMx.of (G := G)) gz cx px
  rw [eX] at gx
  have x60 : ∀ x, x ∈ c9.2.2.2.2.2.1.2.2.2 → x.2.length ≤ 60 := fun x hx => by
    rw [← eX] at hx
    have a := exq_len 513 0 _ _ (fun x hx => absurd hx List.not_mem_nil) x hx
    have b := px.2.2.2.1
    have c := hw.2.2.2.2.1.2
    clear nd hj4 hw gz
    omega
  clear cx px eX
  refine ⟨o4, tr4.1, g1.1, gx.mono (fun r M9 q => ?_)⟩
  obtain ⟨q, hX⟩ := q
  have g60 : ∀ cn1 : Nat, r = 0 → mI M9 (t + 62) 0 = ((cn1 : Nat) : Int) → ∀ x, x ∈ xtm M9 (t + 62) cn1 → x.2.length ≤ 60 := fun cn1 r0 e1 => by
    rcases hX with ⟨y, -⟩ | ⟨-, -, cn2, ge, y⟩
    · exact absurd r0 y
    · have e2 := ge.1
      have ec : cn2 = cn1 := by
        rw [e1] at e2
        clear nd hj4 hw gz
        omega
      rw [← ec, y]
      exact x60
  have hr : r = c9.2.2.2.2.2.1.1.1 := by
    rcases hX with ⟨-, y, -⟩ | ⟨y0, y, -⟩
    · rw [y]
    · rw [y]; exact y0
  clear gx
  obtain ⟨ir, ⟨U1, w9, A1, B1, C1, hU, gy⟩, st, hr0, hr1⟩ := q
  obtain ⟨y1, y2, y3, y4, y5, y6, y7, ⟨fa, ⟨ea, eb⟩, rs, rz⟩, y9, y10⟩ := gy
  have fg : FC (Yg t Ag Bg) M4 M9 := fa.fc (fun x u => by unfold gaS at u; unfold Yg; omega) (fun x u => by unfold gaR at u; unfold Yg; omega)
  have tag : t ≠ Ag ∧ t ≠ Bg := by
    have := g2.2.2.2.2.2.1
    clear nd hj4
    omega
  have t9 := fa.2 t lt1
  have er9 : mR M9 t = mR M4 t := t9.2.2.2.1 (fun u => by unfold gaR at u; omega)
  have ei9 : mI M9 t = mI M4 t := t9.2.2.2.2 (fun u => by unfold gaS at u; omega)
  rw [er9, tr4.2.1.1]
  have kt9 : mK M9 t = 1 := by rw [t9.1]; exact tr4.1
  refine ⟨ir, y1, fun _ => ⟨kt9, y2.1⟩, fun v15 e15 => ⟨kt9, ?_, fun M20 e20 => ⟨fun _ => ?_, fun v24 e24 => ⟨?_, fun M28 e28 => ⟨ir, ?_⟩⟩⟩⟩⟩
  · rw [e15]; split
    · exact ⟨by decide, by decide⟩
    · exact (y1 _ _).1
  · rw [e20, mK_UI, mR_UI, er9, tr4.2.1.1]; exact y2.1
  · rw [e24]; split
    · exact ⟨by decide, by decide⟩
    · rw [e20, mI_UI]; split
      · rw [e15]; split
        · exact ⟨by decide, by decide⟩
        · exact (y1 _ _).1
      · exact (y1 _ _).1
  obtain ⟨f28, ft, it⟩ := yg_t fg e20 e28
  have e3 := hw.2.2.1.1
  have i3 := (hj4.2.1.2.2.2.2.2.2.2.2 (by rw [et4]; exact c6)).1
  have kv28 : mI M28 (mR M28 t 11) 1 = 0 := by
    have zv := hj4.vz
    have ap := hj4.2.2.2.2.1.1
    have lv : v 0 < mZ M4 := hj4.2.2.2.2.1.2.2.2.2 _ (hj4.2.2.2.2.1.2.2.2.1 _ (Or.inr (Or.inl zv)))
    have ng : ¬ gaS (t + 62) Ag Bg (v 0) := fun u => by
      refine ap (v 0) ?_ zv
      unfold gaS at u
      rcases u with u | u | u
      · exact Or.inl ⟨by clear nd hj4; omega, by clear nd hj4; omega⟩
      · rw [u]; exact Or.inr (Or.inr (by simp))
      · rw [u]; exact Or.inr (Or.inr (by simp))
    have nt9 : ¬ v 0 = t := fun e => hj4.top.1.1 (by rw [← e]; exact zv)
    rw [ft.2.2.1, er9, tr4.2.2.1.1, ft.2.2.2.2.2.2 (v 0) nt9, (fa.2 (v 0) lv).2.2.2.2 ng]
    exact all4 0 (by decide)
  have hXC : XC (exp9 c9.2) M28 t := by
    have g28 : ∀ i, i ≤ 9 → i ≠ 3 → mI M28 (t + 62 + i) = mI M9 (t + 62 + i) := fun i _ _ => ft.2.2.2.2.2.2 _ (show ¬ (t + 62 + i = t) by first | rfl | omega)
    have t7 : mI M28 t 7 = v15 := by rw [e28, mI_UI, if_neg (fun u => absurd u.2 (by decide)), e20, mI_UI, if_pos ⟨rfl, rfl⟩]
    have t8 : mI M28 t 8 = v24 := by rw [e28, mI_UI, if_pos ⟨rfl, rfl⟩]
    have g0 : mI M28 (t + 62) 0 = mI M9 (t + 62) 0 := by rw [ft.2.2.2.2.2.2 (t + 62) (show ¬ (t + 62 = t) by first | rfl | omega)]
    have k11 : mI M20 (mR M20 t 9) 11 = mI M9 (t + 62) 11 := by rw [e20, mR_UI, er9, tr4.2.1.1, mI_UI, if_neg (fun u => absurd u.1 (by omega))]
    unfold XC exp9 exG
    rcases hX with ⟨y0, y1, y2⟩ | ⟨y0, y1, cn2, ⟨y2, -, y3⟩, y4⟩
    · have n0 : c9.2.2.2.2.2.1.1.1 ≠ 0 := by rw [← hr]; exact y0
      rw [if_pos n0, t7, t8, e15, if_neg y0, e24, if_neg y0, k11, y2, g0, (hr1 y0).1, y1]
      exact ⟨rfl, ⟨rfl, kv28⟩, rfl, fun _ => rfl, fun u => absurd rfl u⟩
    · have n0 : ¬ (c9.2.2.2.2.2.1.1.1 ≠ 0) := fun u => u (by rw [← hr]; exact y0)
      have ln : c9.2.2.2.2.2.1.2.2.1.length = cn2 := by rw [← y3]; unfold Sm9; rw [List.length_map, List.length_range]
      obtain ⟨cn1, cc1, bc1, c1, gq, gs⟩ := hr0 y0
      have ec : cn2 = cn1 := by
        have := gq.1.1
        rw [y2] at this
        omega
      rw [if_neg n0, t7, t8, e15, if_pos y0, e24, if_pos y0, g0]
      refine ⟨rfl, ⟨rfl, kv28⟩, by rw [y2]; show ((cn2 : Nat) : Int) = ((c9.2.2.2.2.2.1.2.2.1.length : Nat) : Int); rw [ln], fun u => ?_, fun _ => XC.tb (M := M9) ⟨V, ?_, ?_, ?_⟩ g28⟩
      · have u' : c9.2.2.2.2.2.1.2.2.1 = [] := u
        rw [u'] at ln
        have : cn2 = 0 := ln.symm
        omega
      · show (V : Int) = c9.2.2.1
        rw [← i3, e3]
      · show Sm9 M9 (t + 62) V c9.2.2.2.2.2.1.2.2.1.length = c9.2.2.2.2.2.1.2.2.1
        rw [ln]
        exact y3
      · show xtm M9 (t + 62) c9.2.2.2.2.2.1.2.2.1.length = c9.2.2.2.2.2.1.2.2.2
        rw [ln]
        exact y4
  clear hX
  suffices hh : cQ0 c9 C n t Ps Pc M4 M28 from ⟨⟨(cQ0.pre st4 hh).e9, by rw [it 1 (by decide) (by decide), ei9, et4], hXC⟩, hr⟩
  have i15 : i32 v15 := by
    rw [e15]; split
    · exact ⟨by decide, by decide⟩
    · exact (y1 _ _).1
  have o20 : mOk M20 := by rw [e20]; exact mOk_UI y1 i15
  have o28 : mOk M28 := by
    rw [e28]; refine mOk_UI o20 ?_
    rw [e24]; split
    · exact ⟨by decide, by decide⟩
    · exact (o20 _ _).1
  have sb : 0 ≤ mI M9 (t + 72) 9 ∧ mI M9 (t + 72) 9 ≤ 512 * ((n + 1 : Nat) : Int) := by
    have a := g5.1
    have b := g5.2
    have c : mI M9 (t + 72) 9 ≤ mI M4 (t + 72) 9 + 512 := st.1
    have e : mI M4 (t + 72) 9 ≤ mI M9 (t + 72) 9 := st.2
    clear nd hj4 hw gz
    omega
  have rz' : 64 * mZ M28 + 2 * Cg ≤ 64 * mZ M4 + 2 * C1 := by rw [ft.2.2.2.2.1]; clear nd hj4; omega
  have rs' : mS M28 + 4 * Cg ≤ mS M4 + 4 * C1 := by rw [ft.2.2.2.2.2.1]; clear nd hj4; omega
  have fin : ∀ cn' cc' bc' : Nat, GR M9 (t + 62) cn' cc' bc' → (1 ≤ cn' → GS M9 (t + 62) (cn' - 1)) → GG0 M9 (t + 62) cn' cc' bc' → cQ0 c9 C n t Ps Pc M4 M28 := fun cn' cc' bc' a1 a2 a3 => by
    have gm : Gm t U1 A1 B1 C1 cn' cc' bc' (n + 1) M9 := ⟨y2, y3, hU, y9, sb, a1, a2, a3⟩
    obtain ⟨Ps1, Pc1, w1, w2⟩ := hj4.game o28 f28 (by rw [ft.2.2.1, er9]) (by rw [it 1 (by decide) (by decide), ei9]) (by rw [it 6 (by decide) (by decide), ei9]) (by rw [it 18 (by decide) (by decide), ei9]) (gm.fit ft) ea eb (fun i hi _ => Or.inl (all4 i hi)) (fun u => absurd (all4 0 (by decide)) u) rs' rz' (fun _ => by rw [et4]; exact c6)
    exact w1.q w2
  by_cases c : r = 0
  · obtain ⟨cn1, cc1, bc1, c1, gq, gs⟩ := hr0 c
    refine fin cn1 cc1 bc1 (Or.inr ⟨c1, gq⟩) (fun _ => gs) ⟨fun e => by omega, xtm_60 (g60 cn1 c gq.1.1) (fun j hj => ?_)⟩
    obtain ⟨x, y, f1, f2, f3, -⟩ := gq.2.2.2.2.2.2.2.2.1 j (by clear nd hj4; omega)
    exact ⟨x, y, f1, f2, f3⟩
  · exact fin 0 0 0 (Or.inl ⟨rfl, (hr1 c).1⟩) (fun u => by omega) ⟨fun _ => ⟨rfl, rfl⟩, fun j hj => absurd hj (by omega)⟩
end NDA
end
section
/-! The class at rest: the steps of compile. -/
section NDB
variable {G : mG} {d t x n cn cc bc T Kt N A B D Cw p O P K p' O' P' K' Ab Be Cm U Ag Bg Cg Ps Pc Ps1 Pc1 Kt' N' A1 B1 D1 Cw1 O1 P1 K1 Ab1 Be1 Cm1 N0 nw : Nat} {M M' M1 M2 : mM} {Z Y C : Nat → Prop} {v R k : Nat → Nat} {Ls : List Nat} {c9 c8 : tG9}
/-- the top alone has changed, and the text's side is known -/
theorem CJ.tonly (hj : CJ c9 C n t Ps Pc T Kt N A B D Cw p O P K p' O' P' K' Ab Be Cm U Ag Bg Cg cn cc bc Ls v R k Z M) (o : mOk M') (f : FC (fun x => x = t) M M') (zz : mZ M' = mZ M ∧ mS M' = mS M) (hr : ∀ i, 9 ≤ i → mR M' t i = mR M t i) (i18 : mI M' t 18 = mI M t 18) (t6 : 1 ≤ cn → mI M' t 6 ≠ 0) : Gm t U Ag Bg Cg cn cc bc n M' ∧ Ns Z t Ls v R k cn cc bc M' ∧ Ap Z C t T A B D O P O' P' Ab Be Ag Bg M' ∧ Rmc Kt Cw K K' Cm Cg Ps Pc Ls k M' ∧ (1 ≤ cn → mI M' t 6 ≠ 0) ∧ stp C Ps Pc M C Ps Pc M' := by
  obtain ⟨⟨z1, z2⟩, ⟨lt1, lt2⟩, -⟩ := hj.top
  obtain ⟨h1, h2, h3, h4, h5, h6, h7⟩ := hj
  obtain ⟨c1, -⟩ := h5.oc
  have n1 : ∀ y, y ≠ t → ¬ (fun x => x = t) y := fun y a b => a b
  obtain ⟨ns, pe, qe⟩ := h4.fc o f (fun x u w => by rw [u] at w; exact z1 w) (fun i hi => n1 _ (by omega)) (n1 _ (by omega)) lt2 hr i18
  refine ⟨h3.fc f (fun x a b => n1 x (by omega)), ns, h5.mz f.1.1, ?_, t6, f.mono (fun x _ u => by rw [u]; exact (c1 t (by omega) (by omega)).1), fun x u => Or.inl u, by rw [zz.2]; exact Nat.le_refl _, by rw [zz.1]; exact Nat.le_refl _⟩
  unfold Rmc
  rw [pe, qe]
  exact h6
theorem top_lo (h : Ap Z C t T A B D O P O' P' Ab Be Ag Bg M) (hx : Tx c9 t T Kt N A B D Cw p O P K p' O' P' K' Ab Be Cm M) : T ≠ t ∧ O ≠ t ∧ P ≠ t := by
  have o4 := hx.2.2.2.2.1.2.2.2.1
  have pp := hx.2.2.2.2.2.1
  have pT := h.2.2.1.1
  clear hx h
  omega
/-- an int of the top, of no weight -/
theorem CJ.tint {j : Nat} {a : Int} (hj : CJ c9 C n t Ps Pc T Kt N A B D Cw p O P K p' O' P' K' Ab Be Cm U Ag Bg Cg cn cc bc Ls v R k Z M) (ja : j ≠ 1 ∧ j ≠ 6 ∧ j ≠ 18) (ia : i32 a) (e : M' = mUI M t j a) : CJ c9 C n t Ps Pc T Kt N A B D Cw p O P K p' O' P' K' Ab Be Cm U Ag Bg Cg cn cc bc Ls v R k Z M' ∧ stp C Ps Pc M C Ps Pc M' := by
  have f : FI (fun x => x = t) M M' := by rw [e]; exact FI.ui rfl
  have o : mOk M' := by rw [e]; exact mOk_UI hj.1 ia
  have fc := f.fc (Z := fun x => x = t) (fun _ u => u)
  have it : ∀ i, i ≠ j → mI M' t i = mI M t i := fun i hi => by rw [e, mI_UI, if_neg (fun u => hi u.2)]
  obtain ⟨a1, a2, a3, a4, a5, a6⟩ := hj.tonly o fc ⟨f.2.2.2.2.1, f.2.2.2.2.2.1⟩ (fun i _ => by rw [f.2.2.1]) (it 18 (fun u => ja.2.2 u.symm)) (by rw [it 6 (fun u => ja.2.1 u.symm)]; exact hj.2.2.2.2.2.2)
  obtain ⟨b1, b2, b3⟩ := top_lo hj.2.2.2.2.1 hj.2.1
  exact ⟨⟨o, hj.2.1.fc o fc (fun x a b u => by have u' : x = t := u; omega) b1 b2 b3 (fun i _ => by rw [f.2.2.1]) (it 1 (fun u => ja.1 u.symm)) (it 6 (fun u => ja.2.1 u.symm)), a1, a2, a3, a4, a5⟩, a6⟩
/-- the tape is empty -/
theorem CJ.empty (hj : CJ c9 C n t Ps Pc T Kt N A B D Cw p O P K p' O' P' K' Ab Be Cm U Ag Bg Cg cn cc bc Ls v R k Z M) (e : M' = mUI M t 1 0) : CJ c9 C n t Ps Pc T Kt 0 A B D Cw p O P K p' O' P' K' Ab Be Cm U Ag Bg Cg cn cc bc Ls v R k Z M' ∧ stp C Ps Pc M C Ps Pc M' ∧ FI (fun x => x = t) M M' := by
  have f : FI (fun x => x = t) M M' := by rw [e]; exact FI.ui rfl
  have o : mOk M' := by rw [e]; exact mOk_UI hj.1 ⟨by decide, by decide⟩
  have fc := f.fc (Z := fun x => x = t) (fun _ u => u)
  have it : ∀ i, i ≠ 1 → mI M' t i = mI M t i := fun i hi => by rw [e, mI_UI, if_neg (fun u => hi u.2)]
  obtain ⟨a1, a2, a3, a4, a5, a6⟩ := hj.tonly o fc ⟨f.2.2.2.2.1, f.2.2.2.2.2.1⟩ (fun i _ => by rw [f.2.2.1]) (it 18 (by decide)) (by rw [it 6 (by decide)]; exact hj.2.2.2.2.2.2)
  obtain ⟨b1, b2, b3⟩ := top_lo hj.2.2.2.2.1 hj.2.1
  obtain ⟨⟨ta1, ta2, ta3⟩, ta4, ta5, ta6, ta9⟩ := hj.2.1.2.1
  have tap : Tap c9.1 M' t T Kt 0 := ⟨⟨by rw [f.1]; exact ta1, by rw [f.2.2.1]; exact ta2, by rw [e, mI_UI, if_pos ⟨rfl, rfl⟩]; rfl⟩, by rw [f.1, f.2.1]; exact ta4, by rw [f.2.2.2.2.1]; exact ta5, ⟨Nat.zero_le _, Nat.zero_le _, ta6.2.2⟩, fun j hj => absurd hj (Nat.not_lt_zero _)⟩
  exact ⟨⟨o, hj.2.1.tap o fc (fun x a b u => by have u' : x = t := u; omega) b2 b3 (fun i _ => by rw [f.2.2.1]) (it 6 (by decide)) tap, a1, a2, a3, a4, a5⟩, a6, f⟩
theorem nd9w {T A B D O P : Nat} {r : List Nat} (nd : (T :: A :: B :: D :: O :: P :: r).Nodup) : (T ≠ A ∧ T ≠ B ∧ T ≠ D) ∧ (O ≠ A ∧ O ≠ B ∧ O ≠ D) ∧ (P ≠ A ∧ P ≠ B ∧ P ≠ D) := by
  simp only [List.nodup_cons, List.mem_cons, not_or] at nd
  obtain ⟨⟨t1, t2, t3, -⟩, ⟨-, -, a1, a2, -⟩, ⟨-, b1, b2, -⟩, ⟨d1, d2, -⟩, -⟩ := nd
  exact ⟨⟨t1, t2, t3⟩, ⟨fun e => a1 e.symm, fun e => b1 e.symm, fun e => d1 e.symm⟩, ⟨fun e => a2 e.symm, fun e => b2 e.symm, fun e => d2 e.symm⟩⟩
theorem wl1 {t A B D x : Nat} (pA : A = t + 4 ∨ t + 236 ≤ A) (pB : B = t + 5 ∨ t + 236 ≤ B) (pD : D = t + 6 ∨ t + 236 ≤ D) (h : x = t ∨ (t + 7 ≤ x ∧ x < t + 236)) (u : x = t + 2 ∨ x = A ∨ x = B ∨ x = D) : False := by
  rcases u with u | u | u | u
  · clear pA pB pD; omega
  · clear pB pD; omega
  · clear pA pD; omega
  · clear pA pB; omega
theorem wl2 {t T A B D : Nat} (h : T ≠ t + 2) (a : T ≠ A ∧ T ≠ B ∧ T ≠ D) (u : T = t + 2 ∨ T = A ∨ T = B ∨ T = D) : False := by
  rcases u with u | u | u | u
  · exact h u
  · exact a.1 u
  · exact a.2.1 u
  · exact a.2.2 u
theorem wl3 {t p p' O : Nat} {i : Nat} (o : O = p + i ∨ t + 236 ≤ O) (pp : (p = t + 30 ∧ p' = t + 46) ∨ (p = t + 46 ∧ p' = t + 30)) : O ≠ t + 2 ∧ O ≠ t := by omega
/-- cells of the words -/
theorem wo_lo (h : Ap Z C t T A B D O P O' P' Ab Be Ag Bg M) (hx : Tx c9 t T Kt N A B D Cw p O P K p' O' P' K' Ab Be Cm M) : (∀ x, t + 7 ≤ x → x < t + 236 → ¬ woA (t + 2) A B D x) ∧ (¬ woA (t + 2) A B D T ∧ ¬ woA (t + 2) A B D O ∧ ¬ woA (t + 2) A B D P) ∧ (∀ x, woA (t + 2) A B D x → C x ∧ ¬ Z x) ∧ ¬ woA (t + 2) A B D t := by
  obtain ⟨z1, -⟩ := h.nz
  obtain ⟨c1, c2, c3⟩ := h.oc
  have o4 := hx.2.2.2.2.1.2.2.2.1
  have pp := hx.2.2.2.2.2.1
  have pT := h.2.2.1
  have hn := h.1
  have nd := h.2.1
  clear hx
  obtain ⟨a1, a2, a3⟩ := nd9w nd
  obtain ⟨p1, p2, p3, p4⟩ := pT
  clear nd h
  have nT : T ≠ t + 2 := by clear a1 a2 a3 p2 p3 p4 o4 pp; omega
  unfold woA
  refine ⟨fun x a b u => wl1 p2 p3 p4 (Or.inr ⟨a, b⟩) u, ⟨fun u => wl2 nT a1 u, fun u => wl2 (wl3 o4.1 pp).1 a2 u, fun u => wl2 (wl3 o4.2.1 pp).1 a3 u⟩, fun x u => ?_, fun u => wl1 p2 p3 p4 (Or.inl rfl) u⟩
  rcases u with u | u | u | u
  · rw [u]; exact ⟨(c1 _ (by omega) (by omega)).1, z1 _ (by omega) (by omega)⟩
  · rw [u]; exact ⟨(c3 A (by simp)).1, hn _ (Or.inr (Or.inr (by simp)))⟩
  · rw [u]; exact ⟨(c3 B (by simp)).1, hn _ (Or.inr (Or.inr (by simp)))⟩
  · rw [u]; exact ⟨(c3 D (by simp)).1, hn _ (Or.inr (Or.inr (by simp)))⟩
theorem Ap.words (h : Ap Z C t T A B D O P O' P' Ab Be Ag Bg M) (hz : mZ M ≤ mZ M') (t5 : t + 236 ≤ mZ M) (gr : grw M A B D Cw M' A1 B1 D1 Cw1) : Ap Z (Zn C M M') t T A1 B1 D1 O P O' P' Ab Be Ag Bg M' := by
  obtain ⟨c1, c2, c3⟩ := h.oc
  have pl := h.2.2.1
  rcases gr with ⟨e1, e2, e3, -⟩ | ⟨e1, e2, e3, -, z1, -⟩
  · subst e1 e2 e3
    exact h.re hz h.2.1 pl (fun x hx => Or.inl hx)
  · have nd : ([T] ++ ([A, B, D] ++ [O, P, O', P', Ab, Be, Ag, Bg])).Nodup := h.2.1
    have nd' : ([T] ++ ([A1, B1, D1] ++ [O, P, O', P', Ab, Be, Ag, Bg])).Nodup := nd_mid nd (z := mZ M) (fun x hx => (c3 x (by rw [List.mem_singleton.mp hx]; simp)).2) (fun x hx => (c3 x (List.mem_append.mpr (Or.inr hx) : x ∈ [T, A, B, D] ++ [O, P, O', P', Ab, Be, Ag, Bg])).2) (fun x hx => by
      simp only [List.mem_cons, List.not_mem_nil, or_false] at hx
      right; omega) (by simp; omega)
    refine h.re hz nd' ⟨pl.1, by omega, by omega, by omega⟩ (fun x hx => ?_)
    rcases List.mem_append.mp (show x ∈ [T] ++ ([A1, B1, D1] ++ [O, P, O', P', Ab, Be, Ag, Bg]) from hx) with u | u
    · rw [List.mem_singleton.mp u]; exact Or.inl (by simp)
    · rcases List.mem_append.mp u with u | u
      · simp only [List.mem_cons, List.not_mem_nil, or_false] at u
        right; omega
      · exact Or.inl (List.mem_append.mpr (Or.inr u) : x ∈ [T, A, B, D] ++ [O, P, O', P', Ab, Be, Ag, Bg])
theorem rmc_words (h6 : Rmc Kt Cw K K' Cm Cg Ps Pc Ls k M) (pe : Pn Ls k M' = Pn Ls k M ∧ Qn Ls k M' = Qn Ls k M) (c8 : 128 ≤ Cw) (gr : grw M A B D Cw M' A1 B1 D1 Cw1) : Rmc Kt Cw1 K K' Cm Cg (Ps + 6 * Cw1 - 6 * Cw) (Pc + 2 * Cw1 - 2 * Cw) Ls k M' ∧ mS M' + Ps ≤ mS M + (Ps + 6 * Cw1 - 6 * Cw) ∧ 64 * mZ M' + Pc ≤ 64 * mZ M + (Pc + 2 * Cw1 - 2 * Cw) := by
  unfold Rmc at h6 ⊢
  unfold grw at gr
  rw [pe.1, pe.2]
  rcases gr with g | g <;> exact ⟨⟨by omega, by omega, h6.2.2⟩, by omega, by omega⟩
/-- the words of a tape are read -/
theorem CJ.words (hj : CJ c9 C n t Ps Pc T Kt N A B D Cw p O P K p' O' P' K' Ab Be Cm U Ag Bg Cg cn cc bc Ls v R k Z M) (o : mOk M') (fa : FA (woA (t + 2) A B D) (fun x => x = t + 2) M M') (wb : WB M' (t + 2) A1 B1 D1 Cw1) (gr : grw M A B D Cw M' A1 B1 D1 Cw1) : ∃ Ps1 Pc1, CJ c9 (Zn C M M') n t Ps1 Pc1 T Kt N A1 B1 D1 Cw1 p O P K p' O' P' K' Ab Be Cm U Ag Bg Cg cn cc bc Ls v R k Z M' ∧ stp C Ps Pc M (Zn C M M') Ps1 Pc1 M' ∧ mR M' t = mR M t ∧ mI M' t = mI M t ∧ (∀ i, i ≤ 9 → mI M' (t + 62 + i) = mI M (t + 62 + i)) ∧ mI M' (v 0) = mI M (v 0) := by
  have hj0 := hj
  obtain ⟨-, ⟨lt1, lt2⟩, -⟩ := hj.top
  obtain ⟨h1, h2, h3, h4, h5, h6, h7⟩ := hj
  obtain ⟨y1, ⟨y3, y4, y5⟩, y6, y7⟩ := wo_lo h5 h2
  have fc : FC (woA (t + 2) A B D) M M' := fa.fc (fun _ u => u) (fun x u => Or.inl u)
  obtain ⟨-, er, ei⟩ := (fc.2 t lt1).2.2 y7
  obtain ⟨w1, w2, w3, w4, w5, w6, w7, w8⟩ := h2
  have c8 := w3.2.2.2.2.2.2.1
  have tx : Tx c9 t T Kt N A1 B1 D1 Cw1 p O P K p' O' P' K' Ab Be Cm M' := by
    refine ⟨by rw [er]; exact w1, w2.fc fc y3 (by rw [er]) (by rw [ei]), wb, w4.fc o fc (fun x a b => y1 x (by omega) (by omega)) (y1 _ (by omega) (by omega)), w5.fc fc (y1 _ (by omega) (by omega)), w6, fun u => ?_, w8.fc fc w5 (by rw [ei]) (fun i hi => y1 _ (by omega) (by omega)) y4 y5⟩
    rw [ei] at u
    obtain ⟨V, F, ns, sf, ef, L, cnt, hw⟩ := w7 u
    exact ⟨V, F, ns, sf, ef, L, cnt, hw.fc fc (fun i hi => y1 _ (by omega) (by omega)) y4 y5⟩
  obtain ⟨ns, pq⟩ := h4.fc o fc (fun x u => (y6 x u).2) (fun i hi => y1 _ (by omega) (by omega)) (y1 _ (by omega) (by omega)) lt2 (fun i _ => by rw [er]) (by rw [ei])
  obtain ⟨rm, s1, s2⟩ := rmc_words h6 pq c8 gr
  exact ⟨_, _, ⟨o, tx, h3.fc fc (fun x a b => y1 x (by omega) (by omega)), ns, h5.words fc.1.1 (by omega) gr, rm, by rw [ei]; exact h7⟩, ⟨fc.mono (fun x _ u => (y6 x u).1), fun x u => u, s1, s2⟩, er, ei, fun i hi => (fc.sm (by clear hj0; omega) (y1 _ (by omega) (by omega))).2.2.2, hj0.vfc fc (fun x u => (y6 x u).2)⟩
end NDB
end
section
/-! The class at rest: a text is translated, and becomes the text. -/
section NDC
variable {G : mG} {d t x n cn cc bc T Kt N A B D Cw p O P K p' O' P' K' Ab Be Cm U Ag Bg Cg Ps Pc Ps1 Pc1 A1 B1 D1 O1 P1 K1 Ab1 Be1 Cm1 N0 nw : Nat} {M M' M1 M2 : mM} {Z Y C : Nat → Prop} {v R k : Nat → Nat} {Ls : List Nat} {c9 c8 : tG9}
theorem Wf.fi1 {w : Nat} {S : Nat → Prop} (h : Wf M w T A B D N0 Cw nw) (f : FI S M M') (hw : ¬ S w) (hA : ¬ S A) (hB : ¬ S B) (hD : ¬ S D) : Wf M' w T A B D N0 Cw nw := by
  unfold Wf WA at h ⊢
  rw [f.1, f.2.1, f.2.2.1, f.2.2.2.2.2.2 w hw, f.2.2.2.2.2.2 A hA, f.2.2.2.2.2.2 B hB, f.2.2.2.2.2.2 D hD]
  exact h
/-- two different places of the list of cells -/
theorem nd_ne (nd : [T, A, B, D, O, P, O', P', Ab, Be, Ag, Bg].Nodup) : (T ≠ O' ∧ T ≠ P' ∧ T ≠ Ab ∧ T ≠ Be) ∧ (A ≠ O' ∧ A ≠ P' ∧ A ≠ Ab ∧ A ≠ Be) ∧ (B ≠ O' ∧ B ≠ P' ∧ B ≠ Ab ∧ B ≠ Be) ∧ (D ≠ O' ∧ D ≠ P' ∧ D ≠ Ab ∧ D ≠ Be) ∧ (O ≠ O' ∧ O ≠ P' ∧ O ≠ Ab ∧ O ≠ Be) ∧ (P ≠ O' ∧ P ≠ P' ∧ P ≠ Ab ∧ P ≠ Be) := by
  simp only [List.nodup_cons, List.mem_cons, not_or, List.not_mem_nil, not_false_eq_true, and_true] at nd
  obtain ⟨⟨-, -, -, -, -, t1, t2, t3, t4, -⟩, ⟨-, -, -, -, a1, a2, a3, a4, -⟩, ⟨-, -, -, b1, b2, b3, b4, -⟩, ⟨-, -, d1, d2, d3, d4, -⟩, ⟨-, o1, o2, o3, o4, -⟩, ⟨p1, p2, p3, p4, -⟩, -⟩ := nd
  exact ⟨⟨t1, t2, t3, t4⟩, ⟨a1, a2, a3, a4⟩, ⟨b1, b2, b3, b4⟩, ⟨d1, d2, d3, d4⟩, ⟨o1, o2, o3, o4⟩, ⟨p1, p2, p3, p4⟩⟩
theorem of_ne {a b z x : Nat} (o : b = a ∨ z ≤ b) (h : x ≠ a) (hz : x < z) : x ≠ b := by omega
theorem lo_p (pp : (p = t + 30 ∧ p' = t + 46) ∨ (p = t + 46 ∧ p' = t + 30)) : (t + 30 ≤ p' ∧ p' ≤ t + 46) ∧ (∀ i, i ≤ 15 → t + 30 ≤ p + i ∧ p + i < t + 62 ∧ ¬ (p' ≤ p + i ∧ p + i ≤ p' + 15)) := by
  refine ⟨by omega, fun i hi => ?_⟩
  omega
/-- cells of the reader, and of the program that is spare -/
theorem tzs_no (a : ¬ (t + 7 ≤ x ∧ x ≤ t + 29)) (b : ¬ (p' ≤ x ∧ x ≤ p' + 15)) (c : x ≠ O' ∧ x ≠ P' ∧ x ≠ Ab ∧ x ≠ Be) : ¬ tzS (t + 7) p' O' P' Ab Be x := by
  rintro (u | u | u | u | u | u)
  · exact a ⟨u.1, by omega⟩
  · exact b u
  · exact c.1 u
  · exact c.2.1 u
  · exact c.2.2.1 u
  · exact c.2.2.2 u
theorem tz_pl (hx : Tx c9 t T Kt N A B D Cw p O P K p' O' P' K' Ab Be Cm M) : (O' = p' + 1 ∨ t + 236 ≤ O') ∧ (P' = p' + 2 ∨ t + 236 ≤ P') ∧ (Ab = t + 21 ∨ t + 236 ≤ Ab) ∧ (Be = t + 22 ∨ t + 236 ≤ Be) ∧ (O = p + 1 ∨ t + 236 ≤ O) ∧ (P = p + 2 ∨ t + 236 ≤ P) := by
  have o4 := hx.2.2.2.1.2.2.2.2.2.1.2.2.2.1
  have q4 := hx.2.2.2.2.1.2.2.2.1
  have m4 := hx.2.2.2.1.2.2.2.2.1.2.2.2.2.2.1
  exact ⟨o4.1, o4.2.1, m4.1, m4.2.1, q4.1, q4.2.1⟩
/-- a cell of the first ones, but not of theirs -/
theorem tz_out (hx : Tx c9 t T Kt N A B D Cw p O P K p' O' P' K' Ab Be Cm M) (a : ¬ (t + 7 ≤ x ∧ x ≤ t + 29)) (b : ¬ (p' ≤ x ∧ x ≤ p' + 15)) (c : x < t + 236) : ¬ tzS (t + 7) p' O' P' Ab Be x := by
  obtain ⟨q1, q2, q3, q4, -⟩ := tz_pl hx
  clear hx
  exact tzs_no a b ⟨of_ne q1 (by omega) c, of_ne q2 (by omega) c, of_ne q3 (by omega) c, of_ne q4 (by omega) c⟩
/-- the words lie apart from the reader and the program -/
theorem tzw_of (h : Ap Z C t T A B D O P O' P' Ab Be Ag Bg M) (hx : Tx c9 t T Kt N A B D Cw p O P K p' O' P' K' Ab Be Cm M) : TZw M (t + 7) (t + 2) T A B D p' O' P' Ab Be := by
  obtain ⟨c1, -, c3⟩ := h.oc
  have lp := (lo_p hx.2.2.2.2.2.1).1
  obtain ⟨q1, q2, q3, q4, -⟩ := tz_pl hx
  obtain ⟨pT, pA, pB, pD⟩ := h.2.2.1
  obtain ⟨n1, n2, n3, n4, -⟩ := nd_ne h.2.1
  have l2 := (c1 (t + 2) (by omega) (by omega)).2
  have lT := (c3 T (by simp)).2
  have lA := (c3 A (by simp)).2
  have lB := (c3 B (by simp)).2
  have lD := (c3 D (by simp)).2
  clear hx h c1 c3
  intro x u
  rcases u with u | u | u | u | u <;> subst u
  · clear n1 n2 n3 n4 pT pA pB pD
    exact ⟨by omega, by omega, of_ne q1 (by omega) (by omega), of_ne q2 (by omega) (by omega), of_ne q3 (by omega) (by omega), of_ne q4 (by omega) (by omega), l2⟩
  · clear q1 q2 q3 q4 n2 n3 n4 pA pB pD
    exact ⟨by omega, by omega, n1.1, n1.2.1, n1.2.2.1, n1.2.2.2, lT⟩
  · clear q1 q2 q3 q4 n1 n3 n4 pT pB pD
    exact ⟨by omega, by omega, n2.1, n2.2.1, n2.2.2.1, n2.2.2.2, lA⟩
  · clear q1 q2 q3 q4 n1 n2 n4 pT pA pD
    exact ⟨by omega, by omega, n3.1, n3.2.1, n3.2.2.1, n3.2.2.2, lB⟩
  · clear q1 q2 q3 q4 n1 n2 n3 pT pA pB
    exact ⟨by omega, by omega, n4.1, n4.2.1, n4.2.2.1, n4.2.2.2, lD⟩
/-- the cells that translating may change -/
theorem tz_lo (h : Ap Z C t T A B D O P O' P' Ab Be Ag Bg M) (hx : Tx c9 t T Kt N A B D Cw p O P K p' O' P' K' Ab Be Cm M) : (¬ tzS (t + 7) p' O' P' Ab Be t ∧ ¬ tzS (t + 7) p' O' P' Ab Be (t + 2)) ∧ (∀ i, i ≤ 15 → ¬ tzS (t + 7) p' O' P' Ab Be (p + i)) ∧ (¬ tzS (t + 7) p' O' P' Ab Be T ∧ ¬ tzS (t + 7) p' O' P' Ab Be O ∧ ¬ tzS (t + 7) p' O' P' Ab Be P) ∧ (∀ x, t + 62 ≤ x → x < t + 236 → ¬ tzS (t + 7) p' O' P' Ab Be x) ∧ (∀ x, tzS (t + 7) p' O' P' Ab Be x → C x ∧ ¬ Z x) := by
  obtain ⟨z1, -⟩ := h.nz
  obtain ⟨c1, c2, c3⟩ := h.oc
  obtain ⟨lp, lq⟩ := lo_p hx.2.2.2.2.2.1
  obtain ⟨-, -, -, -, q5, q6⟩ := tz_pl hx
  have pT := h.2.2.1.1
  have hn := h.1
  obtain ⟨n1, -, -, -, n5, n6⟩ := nd_ne h.2.1
  have out : ∀ x, ¬ (t + 7 ≤ x ∧ x ≤ t + 29) → ¬ (p' ≤ x ∧ x ≤ p' + 15) → x < t + 236 → ¬ tzS (t + 7) p' O' P' Ab Be x := fun x a b c => tz_out hx a b c
  clear hx h
  have tT : ¬ (t + 7 ≤ T ∧ T ≤ t + 29) ∧ ¬ (p' ≤ T ∧ T ≤ p' + 15) := by clear n1 n5 n6 q5 q6 lq out; omega
  refine ⟨⟨out _ (by omega) (by omega) (by omega), out _ (by omega) (by omega) (by omega)⟩, fun i hi => out _ (by have := lq i hi; omega) (lq i hi).2.2 (by have := lq i hi; omega), ⟨tzs_no tT.1 tT.2 n1, tzs_no ?_ ?_ n5, tzs_no ?_ ?_ n6⟩, fun x a b => out x (by omega) (by omega) b, fun x u => ?_⟩
  · have l1 := lq 1 (by decide)
    clear lq out n1 n5 n6 q6 pT
    rcases q5 with e | e <;> omega
  · have l1 := lq 1 (by decide)
    clear lq out n1 n5 n6 q6 pT
    rcases q5 with e | e
    · rw [e]; exact l1.2.2
    · omega
  · have l1 := lq 2 (by decide)
    clear lq out n1 n5 n6 q5 pT
    rcases q6 with e | e <;> omega
  · have l1 := lq 2 (by decide)
    clear lq out n1 n5 n6 q5 pT
    rcases q6 with e | e
    · rw [e]; exact l1.2.2
    · omega
  clear n1 n5 n6 q5 q6 pT lq out
  rcases u with u | u | u | u | u | u
  · exact ⟨(c1 x (by omega) (by omega)).1, z1 x (by omega) (by omega)⟩
  · exact ⟨(c1 x (by omega) (by omega)).1, z1 x (by omega) (by omega)⟩
  · rw [u]; exact ⟨(c3 O' (by simp)).1, hn _ (Or.inr (Or.inr (by simp)))⟩
  · rw [u]; exact ⟨(c3 P' (by simp)).1, hn _ (Or.inr (Or.inr (by simp)))⟩
  · rw [u]; exact ⟨(c3 Ab (by simp)).1, hn _ (Or.inr (Or.inr (by simp)))⟩
  · rw [u]; exact ⟨(c3 Be (by simp)).1, hn _ (Or.inr (Or.inr (by simp)))⟩
theorem Ap.trl (h : Ap Z C t T A B D O P O' P' Ab Be Ag Bg M) (hz : mZ M ≤ mZ M') (e1 : (O1 = O' ∧ P1 = P') ∨ (mZ M ≤ O1 ∧ mZ M ≤ P1)) (e2 : Ab1 = Ab ∨ mZ M ≤ Ab1) (e3 : Be1 = Be ∨ mZ M ≤ Be1) (lt : O1 < mZ M' ∧ P1 < mZ M' ∧ Ab1 < mZ M' ∧ Be1 < mZ M') (ne : O1 ≠ P1 ∧ Ab1 ≠ Be1 ∧ O1 ≠ Ab1 ∧ O1 ≠ Be1 ∧ P1 ≠ Ab1 ∧ P1 ≠ Be1) : Ap Z (Zn C M M') t T A B D O P O1 P1 Ab1 Be1 Ag Bg M' := by
  obtain ⟨c1, c2, c3⟩ := h.oc
  have nd : ([T, A, B, D, O, P] ++ ([O', P', Ab, Be] ++ [Ag, Bg])).Nodup := h.2.1
  have hm : ∀ x, x ∈ [O1, P1, Ab1, Be1] → x ∈ [O', P', Ab, Be] ∨ mZ M ≤ x := fun x hx => by
    simp only [List.mem_cons, List.not_mem_nil, or_false] at hx ⊢
    omega
  have hl : ∀ x, x ∈ [O1, P1, Ab1, Be1] → x < mZ M' := fun x hx => by
    simp only [List.mem_cons, List.not_mem_nil, or_false] at hx
    omega
  have nd4 : [O1, P1, Ab1, Be1].Nodup := by
    simp only [List.nodup_cons, List.mem_cons, not_or, List.not_mem_nil, not_false_eq_true, and_true]
    exact ⟨⟨ne.1, ne.2.2.1, ne.2.2.2.1⟩, ⟨ne.2.2.2.2.1, ne.2.2.2.2.2⟩, ne.2.1, trivial, List.nodup_nil⟩
  have in1 : ∀ x, x ∈ [T, A, B, D, O, P] → x ∈ [T, A, B, D, O, P, O', P', Ab, Be, Ag, Bg] := fun x hx => (List.mem_append.mpr (Or.inl hx) : x ∈ [T, A, B, D, O, P] ++ [O', P', Ab, Be, Ag, Bg])
  have in2 : ∀ x, x ∈ [Ag, Bg] → x ∈ [T, A, B, D, O, P, O', P', Ab, Be, Ag, Bg] := fun x hx => (List.mem_append.mpr (Or.inr hx) : x ∈ [T, A, B, D, O, P, O', P', Ab, Be] ++ [Ag, Bg])
  have in3 : ∀ x, x ∈ [O', P', Ab, Be] → x ∈ [T, A, B, D, O, P, O', P', Ab, Be, Ag, Bg] := fun x hx => (List.mem_append.mpr (Or.inr (List.mem_append.mpr (Or.inl hx))) : x ∈ [T, A, B, D, O, P] ++ ([O', P', Ab, Be] ++ [Ag, Bg]))
  have nd' : ([T, A, B, D, O, P] ++ ([O1, P1, Ab1, Be1] ++ [Ag, Bg])).Nodup := nd_mid nd (z := mZ M) (fun x hx => (c3 x (in1 x hx)).2) (fun x hx => (c3 x (in2 x hx)).2) hm nd4
  refine h.re hz nd' h.2.2.1 (fun x hx => ?_)
  rcases List.mem_append.mp (show x ∈ [T, A, B, D, O, P] ++ ([O1, P1, Ab1, Be1] ++ [Ag, Bg]) from hx) with u | u
  · exact Or.inl (in1 x u)
  · rcases List.mem_append.mp u with u | u
    · exact (hm x u).imp (in3 x) (fun w => ⟨w, hl x u⟩)
    · exact Or.inl (in2 x u)
theorem rmc_trl (h6 : Rmc Kt Cw K K' Cm Cg Ps Pc Ls k M) (pe : Pn Ls k M' = Pn Ls k M ∧ Qn Ls k M' = Qn Ls k M) (r1 : mS M' + 4 * Cm + 4 * K' ≤ mS M + 4 * Cm1 + 4 * K1) (r2 : 64 * mZ M' + 2 * Cm + K' ≤ 64 * mZ M + 2 * Cm1 + K1) : Rmc Kt Cw K K1 Cm1 Cg (Ps + 4 * Cm1 + 4 * K1 - 4 * Cm - 4 * K') (Pc + 2 * Cm1 + K1 - 2 * Cm - K') Ls k M' ∧ mS M' + Ps ≤ mS M + (Ps + 4 * Cm1 + 4 * K1 - 4 * Cm - 4 * K') ∧ 64 * mZ M' + Pc ≤ 64 * mZ M + (Pc + 2 * Cm1 + K1 - 2 * Cm - K') := by
  unfold Rmc at h6 ⊢
  rw [pe.1, pe.2]
  exact ⟨⟨by omega, by omega, h6.2.2⟩, by omega, by omega⟩
/-- the reader at rest again -/
theorem tz_of {z q w a c L V F cnt : Nat} {ns : Nat → Int} {sf ef : Nat → Nat} (h : TX M z q w T A B D N0 Cw nw p O P K Ab Be Cm V F ns sf ef c cnt L) : TZ M z q p O P K Ab Be Cm ∧ (O < mZ M ∧ P < mZ M ∧ Ab < mZ M ∧ Be < mZ M) ∧ (O ≠ P ∧ Ab ≠ Be) := by
  obtain ⟨⟨⟨b1, b2, b3, b4, b5, b6, b7⟩, ⟨c1, c2, c3, c4, c5, c6⟩, t3, t4, t5, ⟨s1, s2, s3⟩, t7⟩, ⟨d1, d2, d3, d4⟩, -⟩ := h
  have oz := b5.2.2.2.2.1
  have mz := t4.2.2.2.2.2.2.1
  exact ⟨⟨b1, b2, ⟨c1, c2, c3, c5, c6⟩, t3, t4, b5, ⟨s1, s2⟩, t7, d4⟩, ⟨oz.2.1, oz.2.2, mz.2.1, mz.2.2.1⟩, b5.2.2.2.1.2.2.1, t4.2.2.2.2.2.1.2.2.1⟩
/-- a text that was read can be explored -/
theorem pw_of {z q w c L V F cnt : Nat} {ns : Nat → Int} {sf ef : Nat → Nat} (h : TX M z q w T A B D N0 Cw nw p O P K Ab Be Cm V F ns sf ef c cnt L) (e3 : mI M (q + 1) 3 = 0) (h11 : mI M p 11 ≠ -1) (h2 : mI M p 2 = ((L : Nat) : Int)) (hL : L ≤ nw) : PW M z p O P K V F ns sf ef L cnt := by
  obtain ⟨⟨⟨b1, b2, b3, b4, b5, b6, b7⟩, -⟩, ⟨d1, d2, d3, d4⟩, ⟨e1, e2⟩⟩ := h
  obtain ⟨u, u1, u2⟩ := e2 e3
  have w1 := b4.1.2.2.2.2.2.2.1
  have w2 := b4.2.2.1
  exact ⟨b5, ⟨h2, by omega, by omega⟩, d1, d2.2, e1, h11, u, u1, u2⟩
/-- a text is translated -/
theorem CJ.trl {x : Int} (hj : CJ c9 C n t Ps Pc T Kt N A B D Cw p O P K p' O' P' K' Ab Be Cm U Ag Bg Cg cn cc bc Ls v R k Z M) (q : tzQ M (t + 236) (t + 7) (t + 2) T A B D N0 Cw nw p' O' P' K' Ab Be Cm x M') : ∃ O1 P1 K1 Ab1 Be1 Cm1 Ps1 Pc1, CJ c9 (Zn C M M') n t Ps1 Pc1 T Kt N A B D Cw p O P K p' O1 P1 K1 Ab1 Be1 Cm1 U Ag Bg Cg cn cc bc Ls v R k Z M' ∧ stp C Ps Pc M (Zn C M M') Ps1 Pc1 M' ∧ (x = 0 → ∃ (V F : Nat) (ns : Nat → Int) (sf ef : Nat → Nat) (L cnt : Nat), PW M' (t + 236) p' O1 P1 K1 V F ns sf ef L cnt) ∧ mI M' t = mI M t ∧ (∀ i, i ≤ 9 → mI M' (t + 62 + i) = mI M (t + 62 + i)) ∧ mI M' (v 0) = mI M (v 0) := by
  have hj0 := hj
  obtain ⟨-, ⟨lt1, lt2⟩, -⟩ := hj.top
  obtain ⟨h1, h2, h3, h4, h5, h6, h7⟩ := hj
  obtain ⟨O1, P1, K1, Ab1, Be1, Cm1, V, F, ns, sf, ef, c, cnt, L, tx, fa, ⟨e1, e2, e3⟩, ⟨r1, r2⟩, ex, ex0⟩ := q
  obtain ⟨⟨y0, y2⟩, yp, ⟨y3, y4, y5⟩, yg, y6⟩ := tz_lo h5 h2
  obtain ⟨tz, lt, ⟨ne1, ne2⟩⟩ := tz_of (a := 0) tx
  have o := tz.1
  have pp := h2.2.2.2.2.2.1
  have fc : FC (tzS (t + 7) p' O' P' Ab Be) M M' := fa.fc (fun _ u => u) (fun x u => by unfold tzR at u; unfold tzS; clear h2 h3 h4 h5 tx; omega)
  obtain ⟨-, er, ei⟩ := (fc.2 t lt1).2.2 y0
  obtain ⟨w1, w2, w3, w4, w5, w6, w7, w8⟩ := h2
  have tx' : Tx c9 t T Kt N A B D Cw p O P K p' O1 P1 K1 Ab1 Be1 Cm1 M' := by
    refine ⟨by rw [er]; exact w1, w2.fc fc y3 (by rw [er]) (by rw [ei]), w3.fc fc y2, tz, w5.fc fc (yp 0 (by decide)), w6, fun u => ?_, w8.fc fc w5 (by rw [ei]) yp y4 y5⟩
    rw [ei] at u
    obtain ⟨V, F, ns, sf, ef, L, cnt, hw⟩ := w7 u
    exact ⟨V, F, ns, sf, ef, L, cnt, hw.fc fc yp y4 y5⟩
  obtain ⟨ns', pq⟩ := h4.fc o fc (fun x u => (y6 x u).2) (fun i hi => yg _ (by omega) (by omega)) (yg _ (by omega) (by omega)) lt2 (fun i _ => by rw [er]) (by rw [ei])
  obtain ⟨rm, s1, s2⟩ := rmc_trl h6 pq r1 r2
  refine ⟨O1, P1, K1, Ab1, Be1, Cm1, _, _, ⟨o, tx', h3.fc fc (fun x a b => yg x (by omega) (by omega)), ns', h5.trl fc.1.1 e1 e2 e3 lt ⟨ne1, ne2, tz.2.2.2.2.2.2.2.1.1, tz.2.2.2.2.2.2.2.1.2.1, tz.2.2.2.2.2.2.2.1.2.2.1, tz.2.2.2.2.2.2.2.1.2.2.2⟩, rm, by rw [ei]; exact h7⟩, ⟨fc.mono (fun x _ u => (y6 x u).1), fun x u => u, s1, s2⟩, fun x0 => ?_, ei, fun i hi => (fc.sm (by clear hj0; omega) (yg _ (by omega) (by omega))).2.2.2, hj0.vfc fc (fun x u => (y6 x u).2)⟩
  obtain ⟨a1, a2, a3⟩ := ex0 x0
  exact ⟨V, F, ns, sf, ef, L, cnt, pw_of tx (by rw [← ex]; exact x0) a1 a2 a3⟩
theorem Ap.swp (h : Ap Z C t T A B D O P O' P' Ab Be Ag Bg M) : Ap Z C t T A B D O' P' O P Ab Be Ag Bg M := by
  obtain ⟨h1, h2, h3, h4, h5⟩ := h
  have mm : ∀ x, x ∈ [T, A, B, D, O', P', O, P, Ab, Be, Ag, Bg] → x ∈ [T, A, B, D, O, P, O', P', Ab, Be, Ag, Bg] := fun x hx => by
    rcases List.mem_append.mp (show x ∈ [T, A, B, D] ++ ([O', P', O, P] ++ [Ab, Be, Ag, Bg]) from hx) with u | u
    · exact (List.mem_append.mpr (Or.inl u) : x ∈ [T, A, B, D] ++ ([O, P, O', P'] ++ [Ab, Be, Ag, Bg]))
    · rcases List.mem_append.mp u with u | u
      · have u' : x ∈ [O, P, O', P'] := by
          simp only [List.mem_cons, List.not_mem_nil, or_false] at u ⊢
          omega
        exact (List.mem_append.mpr (Or.inr (List.mem_append.mpr (Or.inl u'))) : x ∈ [T, A, B, D] ++ ([O, P, O', P'] ++ [Ab, Be, Ag, Bg]))
      · exact (List.mem_append.mpr (Or.inr (List.mem_append.mpr (Or.inr u))) : x ∈ [T, A, B, D] ++ ([O, P, O', P'] ++ [Ab, Be, Ag, Bg]))
  have nd : ([T, A, B, D] ++ ([O, P, O', P'] ++ [Ab, Be, Ag, Bg])).Nodup := h2
  have nd4 : [O', P', O, P].Nodup := by
    have q := (List.nodup_append.1 (List.nodup_append.1 nd).2.1).1
    simp only [List.nodup_cons, List.mem_cons, not_or, List.not_mem_nil, not_false_eq_true, and_true] at q ⊢
    obtain ⟨⟨a, b, c⟩, ⟨e, f⟩, g, i⟩ := q
    exact ⟨⟨g, fun z => b z.symm, fun z => e z.symm⟩, ⟨fun z => c z.symm, fun z => f z.symm⟩, a, i⟩
  have lt : ∀ x, x ∈ [T, A, B, D, O, P, O', P', Ab, Be, Ag, Bg] → x < mZ M := fun x hx => h5 x (h4 x (Or.inr (Or.inr hx)))
  have nd' : ([T, A, B, D] ++ ([O', P', O, P] ++ [Ab, Be, Ag, Bg])).Nodup := nd_mid nd (z := mZ M) (fun x hx => lt x (List.mem_append.mpr (Or.inl hx) : x ∈ [T, A, B, D] ++ ([O, P, O', P'] ++ [Ab, Be, Ag, Bg]))) (fun x hx => lt x (List.mem_append.mpr (Or.inr (List.mem_append.mpr (Or.inr hx))) : x ∈ [T, A, B, D] ++ ([O, P, O', P'] ++ [Ab, Be, Ag, Bg]))) (fun x hx => Or.inl (by
    simp only [List.mem_cons, List.not_mem_nil, or_false] at hx ⊢
    omega)) nd4
  exact ⟨fun x hx => h1 x (hx.imp id (fun u => u.imp id (mm x))), nd', h3, fun x hx => h4 x (hx.imp id (fun u => u.imp id (mm x))), h5⟩
end NDC
end
section
/-! The class at rest: compile. -/
section NDD
variable {G : mG} {d t x n cn cc bc T Kt N A B D Cw p O P K p' O' P' K' Ab Be Cm U Ag Bg Cg Ps Pc Ps1 Pc1 : Nat} {M M' M1 M2 : mM} {Z Y C : Nat → Prop} {v R k : Nat → Nat} {Ls : List Nat} {c9 c8 : tG9}
/-- the spare program becomes the text -/
theorem CJ.swp {i8 : Int × Int × Int × xR9 × tE9} {M24 M26 : mM} (im : mI M p' 3 = i8.1 ∧ mI M p' 7 = i8.2.1 ∧ mI M p' 12 = i8.2.2.1 ∧ Pgm i8.2.2.2.1 M p' O' P') (hj : CJ c9 C n t Ps Pc T Kt N A B D Cw p O P K p' O' P' K' Ab Be Cm U Ag Bg Cg cn cc bc Ls v R k Z M) (pw : ∃ (V F : Nat) (ns : Nat → Int) (sf ef : Nat → Nat) (L cnt : Nat), PW M (t + 236) p' O' P' K' V F ns sf ef L cnt) (e1 : M24 = mUR M t 4 (mR M t 5)) (e2 : M26 = mUR M24 t 5 (mR M t 4)) (e3 : M' = mUI M26 t 6 1) : CJ (c9.1, 1, i8) C n t Ps Pc T Kt N A B D Cw p' O' P' K' p O P K Ab Be Cm U Ag Bg Cg cn cc bc Ls v R k Z M' ∧ stp C Ps Pc M C Ps Pc M' := by
  obtain ⟨-, ⟨lt1, lt2⟩, -⟩ := hj.top
  have rr : ∀ x i, mR M' x i = if x = t ∧ i = 5 then mR M t 4 else if x = t ∧ i = 4 then mR M t 5 else mR M x i := fun x i => by rw [e3, mR_UI, e2, mR_UR, e1, mR_UR]
  have ii : ∀ x i, mI M' x i = if x = t ∧ i = 6 then 1 else mI M x i := fun x i => by rw [e3, mI_UI, e2, mI_UR, e1, mI_UR]
  have o : mOk M' := by rw [e3]; refine mOk_UI ?_ ⟨by decide, by decide⟩; rw [e2]; refine mOk_UR ?_; rw [e1]; exact mOk_UR hj.1
  have zz : mZ M' = mZ M ∧ mS M' = mS M := by rw [e3, mZ_UI, mS_UI, e2, mZ_UR, mS_UR, e1, mZ_UR, mS_UR]; exact ⟨rfl, rfl⟩
  have f : FC (fun x => x = t) M M' := by
    refine ⟨⟨by rw [zz.1]; exact Nat.le_refl _, by rw [zz.2]; exact Nat.le_refl _⟩, fun x _ => ⟨by rw [e3, mK_UI, e2, mK_UR, e1, mK_UR], by rw [e3, mN_UI, e2, mN_UR, e1, mN_UR], fun nx => ⟨by rw [e3, mL_UI, e2, mL_UR, e1, mL_UR], ?_, ?_⟩⟩⟩
    · funext i
      rw [rr, if_neg (fun u => nx u.1), if_neg (fun u => nx u.1)]
    · funext i
      rw [ii, if_neg (fun u => nx u.1)]
  have rt : ∀ i, i ≠ 4 → i ≠ 5 → mR M' t i = mR M t i := fun i a b => by rw [rr, if_neg (fun u => b u.2), if_neg (fun u => a u.2)]
  have it : ∀ i, i ≠ 6 → mI M' t i = mI M t i := fun i a => by rw [ii, if_neg (fun u => a u.2)]
  obtain ⟨a1, a2, a3, a4, a5, a6⟩ := hj.tonly o f zz (fun i hi => rt i (by omega) (by omega)) (it 18 (by decide)) (fun _ => by rw [ii, if_pos ⟨rfl, rfl⟩]; decide)
  obtain ⟨b1, b2, b3⟩ := top_lo hj.2.2.2.2.1 hj.2.1
  obtain ⟨-, -, -, -, n5, n6⟩ := nd_ne hj.2.2.2.2.1.2.1
  obtain ⟨w1, w2, w3, w4, w5, w6, w7, w8⟩ := hj.2.1
  obtain ⟨lp, lq⟩ := lo_p w6
  have l0 := lq 0 (by decide)
  rw [Nat.add_zero] at l0
  have n1 : ∀ y, y ≠ t → ¬ (fun x => x = t) y := fun y a b => a b
  have tz' := w4.fc o f (fun x a b => n1 x (by omega)) (n1 _ (by omega))
  obtain ⟨t1, t2, t3, t4, t5, t6, t7, t8, t9⟩ := tz'
  have pk := w5.fc f (n1 p (by omega))
  have o4 := t6.2.2.2.1
  obtain ⟨V, F, ns, sf, ef, L, cnt, hw⟩ := pw
  have hw' := hw.fc f (fun i hi => n1 _ (by omega)) (n1 _ (by omega)) (n1 _ (by omega))
  refine ⟨⟨o, ⟨⟨by rw [rt 2 (by decide) (by decide)]; exact w1.1, by rw [rt 3 (by decide) (by decide)]; exact w1.2.1, ?_, ?_⟩, w2.fc f b1 (rt 0 (by decide) (by decide)) (it 1 (by decide)), w3.fc f (n1 _ (by omega)), ⟨t1, t2, t3, t4, t5, pk, ⟨by omega, by omega⟩, ⟨n5.2.2.1, n5.2.2.2, n6.2.2.1, n6.2.2.2⟩, t9⟩, t6, ?_, fun _ => ⟨V, F, ns, sf, ef, L, cnt, hw'⟩, ?_⟩, a1, a2, a3.swp, ?_, a5⟩, a6⟩
  · rw [rr, if_neg (fun u => absurd u.2 (by decide)), if_pos ⟨rfl, rfl⟩]; exact w1.2.2.2
  · rw [rr, if_pos ⟨rfl, rfl⟩]; exact w1.2.2.1
  · rcases w6 with e | e
    · exact Or.inr ⟨e.2, e.1⟩
    · exact Or.inl ⟨e.2, e.1⟩
  · have pg' := im.2.2.2.fc f hw.1 (fun i hi => n1 _ (by omega)) (n1 _ (by omega)) (n1 _ (by omega))
    exact ⟨by rw [ii, if_pos ⟨rfl, rfl⟩], fun _ => ⟨by rw [ii, if_neg (fun u => absurd u.2 (by decide))]; exact im.1, by rw [ii, if_neg (fun u => absurd u.2 (by decide))]; exact im.2.1, by rw [ii, if_neg (fun u => absurd u.2 (by decide))]; exact im.2.2.1, pg'⟩⟩
  · unfold Rmc at a4 ⊢
    exact ⟨by omega, by omega, a4.2.2⟩
/-- the states are gone -/
theorem CJ.clr (hj : CJ c9 C n t Ps Pc T Kt N A B D Cw p O P K p' O' P' K' Ab Be Cm U Ag Bg Cg cn cc bc Ls v R k Z M) (o : mOk M') (f : FI (fun x => x = t + 62) M M') (e : ∀ i, mI M' (t + 62) i = if i = 13 then 0 else if i = 12 then 0 else if i = 0 then 0 else mI M (t + 62) i) : ∃ Ps1 Pc1, CJ c9 (Zn C M M') (n + 1) t Ps1 Pc1 T Kt N A B D Cw p O P K p' O' P' K' Ab Be Cm U Ag Bg Cg 0 0 0 Ls v R k Z M' ∧ stp C Ps Pc M (Zn C M M') Ps1 Pc1 M' := by
  have fc : FC (Yg t Ag Bg) M M' := f.fc (fun x u => by have u' : x = t + 62 := u; unfold Yg; omega)
  have ne : ∀ x, x ≠ t + 62 → mI M' x = mI M x := fun x hx => f.2.2.2.2.2.2 x hx
  have et := ne t (by omega)
  obtain ⟨g1, g2, g4, g5, g6, g7, g8, g9⟩ := hj.2.2.1.up
  exact hj.game o fc (by rw [f.2.2.1]) (by rw [et]) (by rw [et]) (by rw [et]) ⟨g1.eq2 (fun i _ => ⟨by rw [f.1], by rw [f.2.1]⟩) (fun i _ => by rw [f.2.2.1]), g2.fi f (by rw [ne _ (by omega)]), g4, by rw [ne (t + 77) (by omega), ne (t + 72) (by omega)]; exact g5, by rw [ne (t + 72) (by omega)]; exact g6, Or.inl ⟨rfl, by rw [e, if_neg (by decide), if_neg (by decide), if_pos rfl]⟩, fun u => absurd u (by decide), fun _ => ⟨rfl, rfl⟩, fun j hj => absurd hj (Nat.not_lt_zero _)⟩ (Or.inl rfl) (Or.inl rfl) (fun _ _ _ => Or.inr (Or.inr rfl)) (fun _ k hk => absurd hk (Nat.not_lt_zero _)) (by rw [f.2.2.2.2.2.1]; exact Nat.le_refl _) (by rw [f.2.2.2.2.1]; exact Nat.le_refl _) (fun u => absurd u (by decide))
/-- the tables are forgotten -/
theorem CJ.fgt (hj : CJ c9 C n t Ps Pc T Kt N A B D Cw p O P K p' O' P' K' Ab Be Cm U Ag Bg Cg cn cc bc Ls v R k Z M) : mK M t = 1 ∧ Cv G y_CA_forget d [vr t] M (fun M' => CJ c9 C n t Ps Pc T Kt N A B D Cw p O P K p' O' P' K' Ab Be Cm U Ag Bg Cg cn cc bc Ls v R k Z M' ∧ stp C Ps Pc M C Ps Pc M' ∧ mI M' t = mI M t ∧ mI M' (v 0) 1 = 0) := by
  have jn := hj.2.2.2.1
  obtain ⟨⟨z1, -⟩, -, -⟩ := hj.top
  have tv := jn.tv3
  have nt : ∀ i, i < 4 → t ≠ v i := fun i hi e => z1 (by rw [e]; exact (jn.2.1.2.2.1 i hi).1)
  refine ⟨jn.2.2.1.1, (s_CA_forget (d := d) (cn := cn) hj.1 jn.2.2.1.1 ⟨tv.1, tv.2.1.tb, tv.2.2.1.tb, tv.2.2.2.tb⟩ ⟨nt 0 (by decide), nt 1 (by decide), nt 3 (by decide)⟩).mono (fun M4 q => ?_)⟩
  obtain ⟨o4, f4, q0, q1, q3⟩ := q
  obtain ⟨a, b, -, e⟩ := hj.forget o4 f4 q0 q1 q3
  exact ⟨a, b, e, q0⟩
/-- what compile answers, out of the text's letters -/
def clR (c : Nat → Int) (N : Nat) (r p : Int) (k : Int × Int × Int × xR9) : Prop := ∃ (Mx : mM) (A B D n : Nat), spx kwx c N Mx A B D n ∧ ((r = 1 ∧ ∃ q9 : Nat, Rf (cwq kwx c N n) [50] 0 q9 ∧ p = pl0 c N n q9) ∨ ((∃ a, Rc (cwq kwx c N n) [50] 0 [] (a + 1)) ∧ ∃ sF : st9, sF = its9 (cwq kwx c N n) (pl0 c N n) (nq0 c N) (sm0 c N) (n + 1) 60 (n + 1) 0 s9c ∧ r = sF.2.2.1 ∧ (r ≠ 0 → p = sF.2.2.2) ∧ (r = 0 → k = ((sF.2.1.1 : Int), (sF.2.1.2.1 : Int), (sF.2.1.2.2.1 : Int), XpG (cwq kwx c N n, pl0 c N n, nq0 c N, sm0 c N, n + 1, sF.1, igs9 (cwq kwx c N n) (pl0 c N n) (nq0 c N) (sm0 c N) (n + 1) 60 (n + 1) 0 s9c g9c)))))
theorem spx.mv {c : Nat → Int} {nw : Nat} (h : spx kwx c N M A B D nw) (hA : mI M' A = mI M A) (hB : mI M' B = mI M B) (hD : mI M' D = mI M D) : spx kwx c N M' A B D nw := by
  unfold spx at h ⊢
  rw [hA, hB, hD]
  exact h
theorem c_CA_compile (hNS : NSx G kwx) (h : CI c9 C n t Ps Pc M) (hx : XC c9.2 M t) : Ci G y_CA_compile (d + 9) [vr t] M (fun r M' => i32 r ∧ ∃ c8 : tG9, (cQ0 c8 C n t Ps Pc M M' ∧ XC c8.2 M' t) ∧ mI M' t 1 = 0 ∧ c8.1 = c9.1 ∧ clR c9.1 (mI M t 1).toNat r (mI M' t 7) (c8.2.2.1, c8.2.2.2.1, c8.2.2.2.2.1, c8.2.2.2.2.2.1) ∧ ((r ≠ 0 ∧ c8.2 = plc c9.2 (mI M' t 7)) ∨ (r = 0 ∧ c8.2.1 = 1 ∧ c8.2.2.2.2.2.2 = ((-1, c9.2.2.2.2.2.2.1.2.1, 0), [], []) ∧ mI M' t 7 = -1))) := by
  obtain ⟨T, Kt, N, A, B, D, Cw, p, O, P, K, p', O', P', K', Ab, Be, Cm, U, Ag, Bg, Cg, cn, cc, bc, Ls, v, R, k, Z, hj⟩ := h
  have tp := hj.2.1.2.1
  have r2 := hj.2.1.1.1
  have lT : T < mZ M := tp.2.2.1.2.2
  have nT := (wo_lo hj.2.2.2.2.1 hj.2.1).2.1.1
  have tT : t ≠ T := tp.2.2.1.1
  have ch9 : ∀ j, j < N → mI M T j = c9.1 j := fun j hj => (tp.2.2.2.2 j hj).2
  have eN : (mI M t 1).toNat = N := by rw [tp.1.2.2]; exact Int.toNat_natCast _
  rw [eN]
  refine k_CA_compile hj.1 ?_
  rw [r2, tp.1.2.1, tp.1.2.2]
  refine ⟨tp.1.1, hj.2.1.2.2.1.1, (x_Wo_split (d := d) hNS hj.1 hj.2.1.2.2.1 tp.2.1.1 (by rw [tp.2.1.2]; exact tp.2.2.2.1.1) tp.2.2.2.1.2.1 tp.2.2.1.2.2).mono (fun M3 q => ?_)⟩
  obtain ⟨A1, B1, D1, Cw1, nw, o3, wf, wb, -, fa, gr, sp⟩ := q
  have sp3 := spx_cg ch9 sp
  have T3 : mI M3 T = mI M T := (fa.2 T lT).2.2.2.2 nT
  obtain ⟨Ps3, Pc3, j3, s3, -, ei3, eg3, ev3⟩ := hj.words o3 fa wb gr
  have r11 := hj.2.2.2.1.2.2.1.2.2.1.1
  have nvt : v 0 ≠ t := fun e => hj.top.1.1 (by rw [← e]; exact hj.vz)
  clear hj tp r2
  refine ⟨o3, j3.2.1.2.1.1.1, fun M7 e7 => ?_⟩
  have ev7 : mI M7 (v 0) = mI M (v 0) := by
    rw [← ev3, e7]
    funext j
    rw [mI_UI, if_neg (fun u => nvt u.1)]
  have x7 : (∀ i, i ≠ 1 → mI M7 t i = mI M t i) ∧ ∀ i, i ≤ 9 → mI M7 (t + 62 + i) = mI M (t + 62 + i) := by
    refine ⟨fun i hi => by rw [e7, mI_UI, if_neg (fun u => hi u.2), ei3], fun i hi => ?_⟩
    rw [← eg3 i hi, e7]
    funext j
    rw [mI_UI, if_neg (fun u => absurd u.1 (by omega))]
  obtain ⟨j7, s7, f7⟩ := j3.empty e7
  have pl := j3.2.2.2.2.1.2.2.1
  have wf7 := wf.fi1 f7 (show ¬ t + 2 = t by first | rfl | omega) (show ¬ A1 = t by have := pl.2.1; omega) (show ¬ B1 = t by have := pl.2.2.1; omega) (show ¬ D1 = t by have := pl.2.2.2; omega)
  have sp7 : spx kwx c9.1 N M7 A1 B1 D1 nw := sp3.mv (f7.2.2.2.2.2.2 A1 (show ¬ A1 = t by have := pl.2.1; omega)) (f7.2.2.2.2.2.2 B1 (show ¬ B1 = t by have := pl.2.2.1; omega)) (f7.2.2.2.2.2.2 D1 (show ¬ D1 = t by have := pl.2.2.2; omega))
  have ch7 : ∀ j, j < N → mI M7 T j = c9.1 j := fun j hj => by rw [f7.2.2.2.2.2.2 T (fun u => tT u.symm), T3]; exact ch9 j hj
  have s37 := s3.trans s7
  clear j3 s3 s7 pl
  have w7 := j7.2.1.1
  rw [w7.1, w7.2.1, w7.2.2.2]
  have wtq := wt_of ch7 sp7 wf7
  have nqo : NqO (cwq kwx c9.1 N nw) (nq0 c9.1 N) nw := fun k hk h2 => by
    have := wtq.2.1 k hk h2
    omega
  refine ⟨j7.2.1.2.2.2.1.2.2.1.1, (x_TR_translate (Nn := nw + 1) (d := d) FMx.of (Nat.le_refl _) j7.2.1.2.2.2.1 (tzw_of j7.2.2.2.2.1 j7.2.1) wf7 wtq).mono (fun x M10 q => ?_)⟩
  obtain ⟨q, tv⟩ := q
  obtain ⟨X9, ex9⟩ : ∃ X9 : xR9, X9 = XpG (cwq kwx c9.1 N nw, pl0 c9.1 N nw, nq0 c9.1 N, sm0 c9.1 N, nw + 1, (its9 (cwq kwx c9.1 N nw) (pl0 c9.1 N nw) (nq0 c9.1 N) (sm0 c9.1 N) (nw + 1) 60 (nw + 1) 0 s9c).1, igs9 (cwq kwx c9.1 N nw) (pl0 c9.1 N nw) (nq0 c9.1 N) (sm0 c9.1 N) (nw + 1) 60 (nw + 1) 0 s9c g9c) := ⟨_, rfl⟩
  obtain ⟨kk, kx⟩ : ∃ kk : Int × Int × Int × xR9 × tE9, (mI M10 p' 3, mI M10 p' 7, mI M10 p' 12, X9, ((-1, c9.2.2.2.2.2.2.1.2.1, 0), [], [])) = kk := ⟨_, rfl⟩
  have pg : x = 0 → Pgm X9 M10 p' (mR M10 p' 0) (mR M10 p' 1) := fun x0 => by
    rcases tv with ⟨e1, -⟩ | ⟨rc, ft, cs⟩
    · rw [e1] at x0
      exact absurd x0 (by decide)
    · obtain ⟨O1, P1, K1, Ab1, Be1, Cm1, V, F, ns, sf, ef, c, cnt, L, tx, -, -, -, ex, x11⟩ := id q
      have xr : x = (its9 (cwq kwx c9.1 N nw) (pl0 c9.1 N nw) (nq0 c9.1 N) (sm0 c9.1 N) (nw + 1) 60 (nw + 1) 0 s9c).2.2.1 := by rw [ex]; exact ft.1
      obtain ⟨⟨-, s3, s7, s12, s11, -, sv, sr⟩, cg⟩ := cs (xr.symm.trans x0)
      obtain ⟨b1, b2⟩ := tx.2.1.2.1
      rw [s7] at b1
      refine ⟨_, (its9 (cwq kwx c9.1 N nw) (pl0 c9.1 N nw) (nq0 c9.1 N) (sm0 c9.1 N) (nw + 1) 60 (nw + 1) 0 s9c).2.1, nw, nqo, cg, ⟨?_, ?_, s12, fun u => (x11 x0).1 (s11.mpr u)⟩, ex9⟩
      · show mI M10 p' 3 = ((vcn (its9 (cwq kwx c9.1 N nw) (pl0 c9.1 N nw) (nq0 c9.1 N) (sm0 c9.1 N) (nw + 1) 60 (nw + 1) 0 s9c).1 : Nat) : Int)
        rw [sv]
        exact s3
      · show rcn (its9 (cwq kwx c9.1 N nw) (pl0 c9.1 N nw) (nq0 c9.1 N) (sm0 c9.1 N) (nw + 1) 60 (nw + 1) 0 s9c).1 ≤ 60
        rw [sr]
        omega
  have cl : ∀ (p9 : Int) (k9 : Int × Int × Int × xR9), (x ≠ 0 → p9 = mI M10 (t + 7 + 1) 4) → (x = 0 → k9 = (kk.1, kk.2.1, kk.2.2.1, kk.2.2.2.1)) → clR c9.1 N x p9 k9 := fun p9 k9 hp9 hk9 => by
    refine ⟨M7, A1, B1, D1, nw, sp7, ?_⟩
    rcases tv with ⟨e1, q9, rf, -, pq⟩ | ⟨rc, ft, cs⟩
    · exact Or.inl ⟨e1, q9, rf, by rw [hp9 (by rw [e1]; decide)]; exact pq⟩
    · obtain ⟨O1, P1, K1, Ab1, Be1, Cm1, V, F, ns, sf, ef, c, cnt, L, tx, -, -, -, ex, -⟩ := id q
      have xr : x = (its9 (cwq kwx c9.1 N nw) (pl0 c9.1 N nw) (nq0 c9.1 N) (sm0 c9.1 N) (nw + 1) 60 (nw + 1) 0 s9c).2.2.1 := by rw [ex]; exact ft.1
      refine Or.inr ⟨rc, _, rfl, xr, fun x1 => by rw [hp9 x1]; exact ft.2 (by rw [← xr]; exact x1), fun x0 => ?_⟩
      obtain ⟨⟨-, s3, s7, s12, -⟩, -⟩ := cs (xr.symm.trans x0)
      rw [hk9 x0, ← kx, s3, s7, s12, ex9]
  clear tv sp sp3 sp7 ch7 ch9 wtq nqo
  have ix : i32 x := by
    obtain ⟨O1, P1, K1, Ab1, Be1, Cm1, V, F, ns, sf, ef, c, cnt, L, tx, -, -, -, ex, -⟩ := id q
    rw [ex]; exact (tx.1.1.1 _ _).1
  obtain ⟨O1, P1, K1, Ab1, Be1, Cm1, Ps10, Pc10, j10, s10, pw, ei10, eg10, ev10⟩ := j7.trl q
  have ev := ev10.trans ev7
  have x10 : (∀ i, i ≠ 1 → mI M10 t i = mI M t i) ∧ ∀ i, i ≤ 9 → mI M10 (t + 62 + i) = mI M (t + 62 + i) := ⟨fun i hi => by rw [ei10]; exact x7.1 i hi, fun i hi => by rw [eg10 i hi]; exact x7.2 i hi⟩
  have s110 := s37.trans s10
  clear j7 s10 s37 wf7 q
  have k10 := j10.2.1.2.1.1.1
  refine ⟨ix, j10.1, fun x0 => ⟨k10, fun M19 e19 => ⟨fun _ M24 e24 M26 e26 M28 e28 => ?_, fun u => absurd x0 u⟩⟩, fun x1 => ⟨k10, ?_⟩⟩
  · obtain ⟨j19, s19⟩ := j10.tint (j := 7) (a := -1) ⟨by decide, by decide, by decide⟩ ⟨by decide, by decide⟩ e19
    have f19 : FI (fun x => x = t) M10 M19 := by rw [e19]; exact FI.ui rfl
    obtain ⟨V, F, ns, sf, ef, L, cnt, hw⟩ := pw x0
    obtain ⟨q1, q2, -⟩ := tz_pl j10.2.1
    have lp := (lo_p j10.2.1.2.2.2.2.2.1).1
    have n1 : ∀ y, y ≠ t → ¬ (fun x => x = t) y := fun y a b => a b
    have ep : mI M19 p' = mI M10 p' := f19.2.2.2.2.2.2 p' (n1 _ (by clear j10 j19; omega))
    have hw' := hw.fc (f19.fc (Z := fun x => x = t) (fun _ u => u)) (fun i hi => n1 _ (by clear j10 j19; omega)) (n1 _ (by clear j10 j19; omega)) (n1 _ (by clear j10 j19; omega))
    have pg19 : Pgm X9 M19 p' O1 P1 := by
      have := pg x0
      rw [hw.1.2.1.1, hw.1.2.1.2] at this
      exact this.fc (f19.fc (Z := fun x => x = t) (fun _ u => u)) hw.1 (fun i hi => n1 _ (by clear j10 j19; omega)) (n1 _ (by clear j10 j19; omega)) (n1 _ (by clear j10 j19; omega))
    obtain ⟨j28, s28⟩ := j19.swp (i8 := kk) (by rw [ep, ← kx]; exact ⟨rfl, rfl, rfl, pg19⟩) ⟨V, F, ns, sf, ef, L, cnt, hw'⟩ e24 e26 e28
    clear j10 j19 hw hw' pw
    have tr := j28.2.2.2.1.2.2.1
    rw [tr.2.1.1]
    refine ⟨j28.2.2.1.1.1, (s_Ga_clear j28.1 j28.2.2.1.1.1).mono (fun M31 q => ?_)⟩
    obtain ⟨Ps31, Pc31, j31, s31⟩ := j28.clr q.1 q.2.1 q.2.2
    have t31 : ∀ i, i ≠ 6 → mI M31 t i = mI M19 t i := fun i hi => by rw [q.2.1.2.2.2.2.2.2 t (show ¬ (t = t + 62) by first | rfl | omega), e28, mI_UI, if_neg (fun u => hi u.2), e26, mI_UR, e24, mI_UR]
    obtain ⟨a1, a2⟩ := j31.fgt (G := G) (d := d + 8)
    refine ⟨q.1, a1, a2.mono (fun M35 w => ?_)⟩
    obtain ⟨w1, w2, w3, w4⟩ := w
    have t7 : mI M35 t 7 = -1 := by rw [w3, t31 7 (by decide), e19, mI_UI, if_pos ⟨rfl, rfl⟩]
    have t8 : mI M35 t 8 = c9.2.2.2.2.2.2.1.2.1 := by rw [w3, t31 8 (by decide), e19, mI_UI, if_neg (fun u => absurd u.2 (by decide)), x10.1 8 (by decide)]; exact hx.2.1.1
    have g0 : mI M35 (t + 62) 0 = 0 := w1.top.2.2
    refine ⟨w1.1, ix, (c9.1, 1, kk), ⟨w1.q (s110.trans (s19.trans (s28.trans (s31.trans w2)))), ?_⟩, by rw [w1.2.1.2.1.1.2.2]; rfl, rfl, cl _ _ (fun u => absurd x0 u) (fun _ => rfl), Or.inr ⟨x0, rfl, by rw [← kx], t7⟩⟩
    show XC (1, kk) M35 t
    unfold XC
    rw [← kx]
    exact ⟨t7, ⟨t8, by rw [w1.2.2.2.1.2.2.1.2.2.1.1]; exact w4⟩, g0, fun _ => rfl, fun u => absurd rfl u⟩
  · have tz := j10.2.1.2.2.2.1
    have w10 := j10.2.1.1
    rw [w10.2.1]
    refine ⟨tz.2.2.1.1, k_TR_faultPlace j10.1 ?_⟩
    rw [tz.2.2.1.2.1]
    refine ⟨tz.2.2.1.1, tz.2.1.1, (j10.1 _ _).1, j10.1, k10, fun M44 e44 => ⟨fun u => absurd u x1, fun _ => ⟨ix, ?_⟩⟩⟩
    obtain ⟨j44, s44⟩ := j10.tint (j := 7) ⟨by decide, by decide, by decide⟩ (j10.1 _ _).1 e44
    have t7 : mI M44 t 7 = mI M10 (t + 7 + 1) 4 := by rw [e44, mI_UI, if_pos ⟨rfl, rfl⟩]
    have t8 : mI M44 t 8 = mI M t 8 := by rw [e44, mI_UI, if_neg (fun u => absurd u.2 (by decide))]; exact x10.1 8 (by decide)
    have tg : ∀ i, i ≤ 9 → mI M44 (t + 62 + i) = mI M (t + 62 + i) := fun i hi => by
      rw [← x10.2 i hi, e44]
      funext j
      rw [mI_UI, if_neg (fun u => absurd u.1 (by omega))]
    have g0 := tg 0 (by decide)
    rw [Nat.add_zero] at g0
    obtain ⟨x1', x2', x3', x4', x5'⟩ := hx
    have k44 : mI M44 (mR M44 t 11) 1 = c9.2.2.2.2.2.2.1.2.2 := by
      rw [j44.2.2.2.1.2.2.1.2.2.1.1, e44, mI_UI, if_neg (fun u => nvt u.1), ev, ← r11]
      exact x2'.2
    exact ⟨(c9.1, plc c9.2 (mI M44 t 7)), ⟨(j44.up.q (s110.trans s44)).e9, rfl, ⟨by rw [t8]; exact x2'.1, k44⟩, by rw [g0]; exact x3', x4', fun u => XC.tb (x5' u) (fun i hi _ => tg i hi)⟩, by rw [j44.2.1.2.1.1.2.2]; rfl, rfl, cl _ _ (fun _ => t7) (fun u => absurd u x1), Or.inl ⟨x1, rfl⟩⟩
end NDD
end
section
/-! Class and reference side by side: each is left alone by the other's steps. -/
section NDE
variable {Nt9 : tP9} {G : mG} {y : mY} {d t a x n p Ps Pc : Nat} {As : List mV} {M M' : mM} {Y C : Nat → Prop} {c9 c8 : tG9}
theorem Ci.mz {Q : Int → mM → Prop} (h : Ci G y d As M Q) : Ci G y d As M (fun r M' => Q r M' ∧ mZ M ≤ mZ M' ∧ mS M ≤ mS M') := by
  obtain ⟨r, M1, h1, x, e, h2⟩ := h
  exact ⟨r, M1, h1, x, e, h2, h1.1⟩
theorem Cv.mz {Q : mM → Prop} (h : Cv G y d As M Q) : Cv G y d As M (fun M' => Q M' ∧ mZ M ≤ mZ M' ∧ mS M ≤ mS M') := by
  obtain ⟨r, M1, h1, e, h2⟩ := h
  exact ⟨r, M1, h1, e, h2, h1.1⟩
theorem FR.fc (h : FR M a M') (hs : mS M ≤ mS M') : FC (own M a) M M' := by
  obtain ⟨h1, h2, h3, -⟩ := h
  exact ⟨⟨h1, hs⟩, fun x hx => ⟨(h2 x hx).1, (h2 x hx).2, fun nz => ⟨(h3 x hx nz).2.2, (h3 x hx nz).1, (h3 x hx nz).2.1⟩⟩⟩
theorem Nu.sm (h : Nu M p) (hp : Sm M M' p) (hA : Sm M M' (mR M p 0)) (hz : mZ M ≤ mZ M') : Nu M' p ∧ sameN M M' p := by
  obtain ⟨h1, h2, ⟨h3, h4⟩, h5, h6⟩ := h
  have ec : cp M' p = cp M p := by unfold cp; rw [hp.2.2.1, hA.2.1]
  exact ⟨⟨by rw [hp.1]; exact h1, by rw [hp.2.2.1, hA.1]; exact h2, ⟨by omega, by rw [hp.2.2.1]; omega⟩, by rw [hp.2.2.2, ec]; exact h5, by rw [ec]; exact h6⟩, by unfold ln; rw [hp.2.2.2], fun j => by unfold nt; rw [hp.2.2.1, hA.2.2.2], ec, hp.2.2.1⟩
/-- the reference is left alone -/
theorem RI.off (h : RI Nt9 M a) (o : mOk M') (f : FC Y M M') (hY : ∀ x, Y x → ¬ own M a x) : RI Nt9 M' a ∧ (∀ q, q ∈ nums a → sameN M M' q) ∧ (∀ x, own M' a x ↔ own M a x) := by
  have hxe := h.xe
  obtain ⟨-, w, ⟨l1, l2⟩, rx⟩ := h.r0
  have hz := f.1.1
  have zz := w.2.2.2
  have no : ∀ x, own M a x → ¬ Y x := fun x u v => hY x v u
  have sm : ∀ x, a ≤ x → x ≤ a + 21191 → Sm M M' x ∧ mL M' x = mL M x := fun x b c => ⟨f.sm (by omega) (no x (Or.inl ⟨b, c⟩)), ((f.2 x (by omega)).2.2 (no x (Or.inl ⟨b, c⟩))).1⟩
  have hin : ∀ q, q ∈ nums a → a ≤ q ∧ q ≤ a + 21191 := fun q hq => by have := nums_in hq; omega
  have nus : ∀ q, q ∈ nums a → Nu M' q ∧ sameN M M' q := fun q hq => (w.nu hq).sm (sm q (hin q hq).1 (hin q hq).2).1 (f.sm (w.nu hq).2.2.1.2 (no _ (Or.inr ⟨q, hq, rfl⟩))) hz
  have s0 := sm a (by omega) (by omega)
  have r9 : mR M' a = mR M a := s0.1.2.2.1
  have w' : Wd M' a := by
    refine ⟨pl_same zz (fun x hx => (f.2 x hx).1) (fun x hx => (f.2 x hx).2.1) r9 (sm (a + 13) (by omega) (by omega)).1.2.2.1 (sm (a + 49) (by omega) (by omega)).1.2.2.1 w.1, fun q hq => ⟨(nus q hq).1, ?_, ?_⟩, fun p q hp hq hne => ?_, by omega⟩
    · rw [(nus q hq).2.2.2.2]; exact (w.arr hq).2
    · rw [(nus q hq).2.2.2.1]; exact w.bd hq
    · rw [(nus p hp).2.2.2.2, (nus q hq).2.2.2.2]; exact w.2.2.1 p q hp hq hne
  have hg := w.g9
  have sl9 : ∀ q, q ∈ nums a → sl M M' q := fun q hq => (nus q hq).2.sl
  have xe : xeF M M' a := ⟨by rw [s0.1.2.2.2]; exact ⟨rfl, rfl, rfl⟩, ⟨(sm _ (by omega) (by omega)).1.2.2.2, (sm _ (by omega) (by omega)).1.2.2.2, (sm _ (by omega) (by omega)).1.2.2.2, (sm _ (by omega) (by omega)).1.2.2.2, (sm _ (by omega) (by omega)).1.2.2.2⟩, ⟨(sm _ (by omega) (by omega)).2, (sm _ (by omega) (by omega)).2⟩, sl9 _ (nums_o (by decide)), sl9 _ (nums_o (by decide)), sl9 _ (nums_o (by decide)), sl9 _ (nums_o (by decide)), by rw [(sm (a + 117) (by omega) (by omega)).1.2.2.2], fun i p q => (sm (a + 117 + i) (by omega) (by omega)).1.2.2.2⟩
  have ra : RA M M' a (mR M a 9) := by
    refine ⟨by rw [s0.1.2.2.2]; exact ⟨rfl, rfl, rfl⟩, fun x x1 x2 => ⟨(sm x (by omega) (by omega)).1.1, (sm x (by omega) (by omega)).1.2.1, (sm x (by omega) (by omega)).1.2.2.1, (sm x (by omega) (by omega)).1.2.2.2⟩, ⟨sl9 _ (nums_o (by decide)), sl9 _ (nums_o (by decide)), sl9 _ (nums_o (by decide))⟩, ⟨(sm _ (by omega) (by omega)).1.2.2.2, (sm _ (by omega) (by omega)).1.2.2.2⟩, fun q hq => sl9 q (gL9_in hg hq), (sm _ (by rcases hg with e | e <;> rw [e] <;> omega) (by rcases hg with e | e <;> rw [e] <;> omega)).1.2.2.2, fun i i1 i2 => ?_, xe⟩
    have := sm (mR M a 9 + i) (by rcases hg with e | e <;> rw [e] <;> omega) (by rcases hg with e | e <;> rw [e] <;> omega)
    exact ⟨this.1.2.2.2, this.2⟩
  refine ⟨RI0.ri ⟨o, w', ?_, by rw [r9]; exact rx.ra ra⟩ (hxe.xe xe (by rw [s0.1.2.2.2]) (by rw [(sm (a + 117 + 30) (by omega) (by omega)).1.2.2.2])), fun q hq => (nus q hq).2, fun x => ?_⟩
  · rw [r9]; exact ⟨l1.sm (nus _ w.tape.1).2, by rw [(nus _ w.tape.2.1).2.1]; exact l2⟩
  · unfold own
    constructor
    · rintro (u | ⟨q, hq, u⟩)
      · exact Or.inl u
      · exact Or.inr ⟨q, hq, by rw [u, (nus q hq).2.2.2.2]⟩
    · rintro (u | ⟨q, hq, u⟩)
      · exact Or.inl u
      · exact Or.inr ⟨q, hq, by rw [u, (nus q hq).2.2.2.2]⟩
/-- the class is left alone -/
theorem CI.off (h : CI c9 C n t Ps Pc M) (o : mOk M') (f : FC Y M M') (hY : ∀ x, Y x → ¬ C x) : CI c9 C n t Ps Pc M' ∧ mI M' t = mI M t ∧ mR M' t = mR M t := by
  obtain ⟨T, Kt, N, A, B, D, Cw, p, O, P, K, p', O', P', K', Ab, Be, Cm, U, Ag, Bg, Cg, cn, cc, bc, Ls, v, R, k, Z, hj⟩ := h
  obtain ⟨-, ⟨lt1, lt2⟩, -⟩ := hj.top
  obtain ⟨h1, h2, h3, h4, h5, h6, h7⟩ := hj
  obtain ⟨c1, c2, c3⟩ := h5.oc
  have no : ∀ x, C x → ¬ Y x := fun x u v => hY x v u
  obtain ⟨-, er, ei⟩ := (f.2 t lt1).2.2 (no t (c1 t (by omega) (by omega)).1)
  obtain ⟨ns, pe, qe⟩ := h4.fc o f (fun x u w => no x (c2 x w).1 u) (fun i hi => no _ (c1 _ (by omega) (by omega)).1) (no _ (c1 _ (by omega) (by omega)).1) lt2 (fun i _ => by rw [er]) (by rw [ei])
  refine ⟨⟨T, Kt, N, A, B, D, Cw, p, O, P, K, p', O', P', K', Ab, Be, Cm, U, Ag, Bg, Cg, cn, cc, bc, Ls, v, R, k, Z, o, h2.fc o f (fun x a b => no x (c1 x (by omega) (by omega)).1) (no T (c3 T (by simp)).1) (no O (c3 O (by simp)).1) (no P (c3 P (by simp)).1) (fun i _ => by rw [er]) (by rw [ei]) (by rw [ei]), h3.fc f (fun x a b => no x (c1 x (by omega) (by omega)).1), ns, h5.mz f.1.1, ?_, by rw [ei]; exact h7⟩, ei, er⟩
  unfold Rmc
  rw [pe, qe]
  exact h6
theorem tE.off {Nn : tP9} (h : CI c9 C n t Ps Pc M) (f : FC Y M M') (hY : ∀ x, Y x → ¬ C x) (e : tE Nn M t) : tE Nn M' t := by
  obtain ⟨T, Kt, N, A, B, D, Cw, p, O, P, K, p', O', P', K', Ab, Be, Cm, U, Ag, Bg, Cg, cn, cc, bc, Ls, v, R, k, Z, hj⟩ := h
  obtain ⟨c1, c2, c3⟩ := hj.2.2.2.2.1.oc
  have s : ∀ x, t ≤ x → x < t + 236 → mI M' x = mI M x := fun x a b => (f.sm (c1 x a b).2 (fun u => hY x u (c1 x a b).1)).2.2.2
  have st := s t (Nat.le_refl _) (by omega)
  have er := (f.sm (c1 t (Nat.le_refl _) (by omega)).2 (fun u => hY t u (c1 t (Nat.le_refl _) (by omega)).1)).2.2.1
  exact sE.trans ⟨by rw [st], by rw [st], by rw [st], fun i hi _ => s _ (by omega) (by omega), hj.knf (by rw [er]) (by rw [hj.vfc f (fun x u w => hY x u (c2 x w).1)])⟩ e
end NDE
end
section
/-! The room that class and reference may take. -/
section NDF
variable {t n a Ps Pc : Nat} {M : mM} {C : Nat → Prop} {Nt9 : tP9} {c9 c8 : tG9}
theorem psum_le {f g : Nat → Nat} : ∀ (l : List Nat), (∀ a, a ∈ l → f a ≤ g a) → psum f l ≤ psum g l
  | [], _ => Nat.le_refl _
  | x :: l, h => by
    show f x + psum f l ≤ g x + psum g l
    exact Nat.add_le_add (h x List.mem_cons_self) (psum_le l (fun a ha => h a (List.mem_cons_of_mem _ ha)))
theorem psum_lin {f : Nat → Nat} {c e : Nat} : ∀ (l : List Nat), psum (fun a => c + e * f a) l = c * l.length + e * psum f l
  | [] => by show 0 = c * 0 + e * 0; rw [Nat.mul_zero, Nat.mul_zero]
  | x :: l => by
    show c + e * f x + psum (fun a => c + e * f a) l = c * (l.length + 1) + e * (f x + psum f l)
    rw [psum_lin l, Nat.mul_add, Nat.mul_add, Nat.mul_one]
    omega
theorem psum_one1 {x : Nat} : ∀ (l : List Nat), l.Nodup → psum (fun a => if a = x then 1 else 0) l ≤ 1
  | [], _ => Nat.zero_le _
  | y :: l, h => by
    obtain ⟨h1, h2⟩ := List.nodup_cons.1 h
    show (if y = x then 1 else 0) + psum (fun a => if a = x then 1 else 0) l ≤ 1
    by_cases c : y = x
    · rw [if_pos c]
      have : psum (fun a => if a = x then 1 else 0) l ≤ psum (fun _ => 0) l := psum_le l (fun a ha => by
        show (if a = x then 1 else 0) ≤ 0
        rw [if_neg (fun e => h1 (by rw [c, ← e]; exact ha))]
        exact Nat.le_refl _)
      have z : psum (fun _ => 0) l = 0 := by
        have := psum_lin (f := fun _ => 0) (c := 0) (e := 0) l
        simpa using this
      omega
    · rw [if_neg c, Nat.zero_add]
      exact psum_one1 l h2
theorem psum_ind : ∀ (m : Nat) (l : List Nat), l.Nodup → psum (fun a => if t ≤ a ∧ a < t + m then 1 else 0) l ≤ m
  | 0, l, _ => by
    have : psum (fun a => if t ≤ a ∧ a < t + 0 then 1 else 0) l ≤ psum (fun _ => 0) l := psum_le l (fun a _ => by
      show (if t ≤ a ∧ a < t + 0 then 1 else 0) ≤ 0
      rw [if_neg (by omega)]
      exact Nat.le_refl _)
    have z : psum (fun _ => 0) l = 0 := by
      have := psum_lin (f := fun _ => 0) (c := 0) (e := 0) l
      simpa using this
    omega
  | m + 1, l, h => by
    have h1 := psum_ind m l h
    have h2 := psum_one1 (x := t + m) l h
    have e : ∀ l : List Nat, psum (fun a => if t ≤ a ∧ a < t + (m + 1) then 1 else 0) l ≤ psum (fun a => if t ≤ a ∧ a < t + m then 1 else 0) l + psum (fun a => if a = t + m then 1 else 0) l := fun l => by
      induction l with
      | nil => exact Nat.le_refl _
      | cons x l ih =>
        show (if t ≤ x ∧ x < t + (m + 1) then 1 else 0) + psum (fun a => if t ≤ a ∧ a < t + (m + 1) then 1 else 0) l ≤ ((if t ≤ x ∧ x < t + m then 1 else 0) + psum (fun a => if t ≤ a ∧ a < t + m then 1 else 0) l) + ((if x = t + m then 1 else 0) + psum (fun a => if a = t + m then 1 else 0) l)
        have : (if t ≤ x ∧ x < t + (m + 1) then 1 else 0) ≤ (if t ≤ x ∧ x < t + m then 1 else 0) + (if x = t + m then 1 else 0) := by
          split <;> split <;> split <;> omega
        omega
    have := e l
    omega
theorem CI.bd (h : CI c9 C n t Ps Pc M) (hC : ∀ x, C x → t ≤ x) : Ps ≤ 1448000 ∧ Pc ≤ 5300000 := by
  obtain ⟨T, Kt, N, A, B, D, Cw, p, O, P, K, p', O', P', K', Ab, Be, Cm, U, Ag, Bg, Cg, cn, cc, bc, Ls, v, R, k, Z, h1, h2, h3, h4, h5, h6, h7⟩ := h
  have b1 := h2.2.1.2.2.2.1.2.2.2
  have b2 := h2.2.2.1.2.2.2.2.2.2.2
  have b3 := h2.2.2.2.2.1.2.2.2.2.2.1.2
  have b4 := h2.2.2.2.1.2.2.2.2.2.1.2.2.2.2.2.1.2
  have b5 := h2.2.2.2.1.2.2.2.2.1.2.2.2.2.2.2.2.2
  have b6 := h3.2.1.2.2.2.2.2.2.2.2
  have hF := h4.1.1.2.1.1
  have k4 : ∀ i, i < 4 → k i ≤ 512 := fun i hi => (h4.1.2.1.1 i hi).2.2.2.1
  have ge : ∀ x, x ∈ Ls → t ≤ x := fun x hx => hC x (h5.oc.2.1 x (h4.2.1.2.1 x hx).1).1
  have w2 : ∀ x, x ∈ Ls → cp M x ≤ 34 + 566 * (if t ≤ x ∧ x < t + 236 then 1 else 0) := fun x hx => by
    have a := (hF.2.1 x hx).2.1
    have g := ge x hx
    unfold Wt at a
    by_cases c : x < t + 236
    · rw [if_pos c] at a
      rw [if_pos ⟨g, c⟩]
      omega
    · rw [if_neg c] at a
      rw [if_neg (fun u => c u.2)]
      omega
  have w4 : ∀ x, x ∈ Ls → cp M x / 4 ≤ 8 + 142 * (if t ≤ x ∧ x < t + 236 then 1 else 0) := fun x hx => by
    have a := w2 x hx
    by_cases c : t ≤ x ∧ x < t + 236
    · rw [if_pos c] at a ⊢
      omega
    · rw [if_neg c] at a ⊢
      omega
  have i1 := psum_ind (t := t) 236 Ls hF.1
  have s1 := psum_le Ls w2
  have s2 := psum_le (f := fun p => cp M p / 4) Ls w4
  rw [psum_lin] at s1 s2
  obtain ⟨r1, r2, r3⟩ := h6
  have k0 := k4 0 (by decide)
  have k44 : k 4 ≤ 2400 := by
    have q := h4.2.1.2.2.2.2.1.2.2
    omega
  have k1 := k4 1 (by decide)
  have k2 := k4 2 (by decide)
  have k3 := k4 3 (by decide)
  have q4 : ∀ x, x ≤ 512 → pk4 x ≤ 1536 := fun x hx => by unfold pk4; split <;> omega
  have p0 := q4 _ k0
  have p1 := q4 _ k1
  have p2 := q4 _ k2
  have p3 := q4 _ k3
  clear h1 h2 h3 h4 h5 h7 hF k4 ge w2 w4 q4 hC
  unfold Pn at r1
  unfold Qn at r2
  exact ⟨by omega, by omega⟩
theorem psum_map {f : Nat → Nat} {g : Nat → Nat} : ∀ (l : List Nat), psum f (l.map g) = psum (fun x => f (g x)) l
  | [] => rfl
  | x :: l => by
    show f (g x) + psum f (l.map g) = f (g x) + psum (fun x => f (g x)) l
    rw [psum_map l]
theorem RI.bd (h : RI Nt9 M a) : psum (cp M) (nums a) ≤ 2555904 ∧ psum (fun p => cp M p / 16) (nums a) ≤ 159744 := by
  have w := h.2.1
  have s1 : psum (cp M) (nums a) ≤ psum (Bd a) (nums a) := psum_le _ (fun q hq => w.bd hq)
  have s2 : psum (fun p => cp M p / 16) (nums a) ≤ psum (fun p => Bd a p / 16) (nums a) := psum_le _ (fun q hq => Nat.div_le_div_right (w.bd hq))
  have e : ∀ o, Bd a (a + o) = if o = 91 ∨ o = 93 ∨ o = 95 ∨ o = 99 then 131072 else 65536 := fun o => by
    unfold Bd
    by_cases c : o = 91 ∨ o = 93 ∨ o = 95 ∨ o = 99
    · rw [if_pos c, if_pos (by omega)]
    · rw [if_neg c, if_neg (by omega)]
  have e1 : psum (Bd a) (nums a) = 2555904 := by
    unfold nums
    rw [psum_map]
    simp only [e]
    decide
  have e2 : psum (fun p => Bd a p / 16) (nums a) = 159744 := by
    unfold nums
    rw [psum_map]
    simp only [e]
    decide
  omega
end NDF
end
section
/-! Math.floorMod. -/
theorem s_JM_floorMod {G : mG} : FMs G := fun d M x y _ hx h hy => (s_JM_floorMod0 d M x y hx h hy).mono (fun _ _ q => ⟨q.1, q.2.1⟩)
end
section
/-! Class and reference side by side in the law's loop. -/
section LIV
variable {G : mG} {d t a o b N n x Ps Pc B0 B1 : Nat} {Nc Nr Nn : tP9} {l l1 l2 : Int} {xs : Int → Int} {M M' M1 M2 : mM} {C Y : Nat → Prop} {c9 c8 : tG9}
theorem CI.ok (h : CI c9 C n t Ps Pc M) : mOk M := by
  obtain ⟨T, Kt, N, A, B, D, Cw, p, O, P, K, p', O', P', K', Ab, Be, Cm, U, Ag, Bg, Cg, cn, cc, bc, Ls, v, R, k, Z, h⟩ := h
  exact h.1
theorem CI.up (h : CI c9 C n t Ps Pc M) : CI c9 C (n + 1) t Ps Pc M := by
  obtain ⟨T, Kt, N, A, B, D, Cw, p, O, P, K, p', O', P', K', Ab, Be, Cm, U, Ag, Bg, Cg, cn, cc, bc, Ls, v, R, k, Z, h⟩ := h
  exact ⟨T, Kt, N, A, B, D, Cw, p, O, P, K, p', O', P', K', Ab, Be, Cm, U, Ag, Bg, Cg, cn, cc, bc, Ls, v, R, k, Z, h.up⟩
theorem CI.clt (h : CI c9 C n t Ps Pc M) (u : C x) : x < mZ M := by
  obtain ⟨T, Kt, N, A, B, D, Cw, p, O, P, K, p', O', P', K', Ab, Be, Cm, U, Ag, Bg, Cg, cn, cc, bc, Ls, v, R, k, Z, h⟩ := h
  exact h.2.2.2.2.1.2.2.2.2 x u
theorem CI.tlt (h : CI c9 C n t Ps Pc M) : t < mZ M := by
  obtain ⟨T, Kt, N, A, B, D, Cw, p, O, P, K, p', O', P', K', Ab, Be, Cm, U, Ag, Bg, Cg, cn, cc, bc, Ls, v, R, k, Z, h⟩ := h
  exact h.top.2.1.1
/-- a step of the class, seen from outside: the out array at o may be written, an exception may be made -/
def cSt (o : Nat) (C : Nat → Prop) (n t Ps Pc : Nat) (Nn : tP9) (M M' : mM) : Prop := ∃ (C' : Nat → Prop) (Ps' Pc' : Nat), CI Nn.2 C' (n + 1) t Ps' Pc' M' ∧ FC (fun x => C x ∨ x = o) M M' ∧ (∀ x, C' x → C x ∨ (mZ M ≤ x ∧ x < mZ M')) ∧ mS M' + Ps ≤ mS M + Ps' + 6 ∧ 64 * mZ M' + Pc ≤ 64 * mZ M + Pc' + 64 ∧ tE Nn M' t
theorem cQ0.cs (h : cQ0 Nn.2 C n t Ps Pc M M') (e : tE Nn M' t) : cSt o C n t Ps Pc Nn M M' := by
  obtain ⟨C', Ps', Pc', h1, h2, h3, h4, h5⟩ := h
  exact ⟨C', Ps', Pc', h1, h2.mono (fun _ _ u => Or.inl u), h3, by omega, by omega, e⟩
theorem cQ.cs (h : cQ Nn.2 C n t Ps Pc M M') (e : tE Nn M t) : cSt o C n t Ps Pc Nn M M' := h.1.cs (h.2.trans e)
theorem fc_new {k w c : Nat} : FC (fun _ => False) M (mNew M k w c) := by
  refine ⟨⟨Nat.le_succ _, Nat.le_add_right _ _⟩, fun x hx => ?_⟩
  have q : Eqc M (mNew M k w c) x := eqc_new (by omega)
  exact ⟨q.1, q.2.1, fun _ => ⟨q.2.2.2.1, q.2.2.2.2, q.2.2.1⟩⟩
theorem CI.thr (h : CI Nn.2 C n t Ps Pc M) (e : tE Nn M t) : cSt o C n t Ps Pc Nn M (mNew M 50 0 6) := by
  have f : FC (fun _ => False) M (mNew M 50 0 6) := fc_new
  obtain ⟨h1, h2, h3⟩ := h.off (mOk_New h.ok) f (fun _ u => u.elim)
  exact ⟨C, Ps, Pc, h1.up, f.mono (fun _ _ u => u.elim), fun x u => Or.inl u, by show mS M + 6 + Ps ≤ mS M + Ps + 6; omega, by show 64 * (mZ M + 1) + Pc ≤ 64 * mZ M + Pc + 64; omega, tE.off h f (fun _ u => u.elim) e⟩
theorem cQ0.out {r : Int} (h : cQ0 Nn.2 C n t Ps Pc M M1) (e : tE Nn M1 t) (no : ¬ C o) (oz : o < mZ M) (ir : i64 r) : cSt o C n t Ps Pc Nn M (mUL M1 o 0 r) := by
  obtain ⟨C', Ps', Pc', h1, h2, h3, h4, h5⟩ := h
  have no' : ¬ C' o := fun u => (h3 o u).elim no (fun w => by omega)
  have f : FC (fun x => x = o) M1 (mUL M1 o 0 r) := ⟨⟨Nat.le_refl _, Nat.le_refl _⟩, fun x _ => ⟨rfl, rfl, fun nx => ⟨funext fun _ => if_neg (fun u => nx u.1), rfl, rfl⟩⟩⟩
  obtain ⟨k1, k2, k3⟩ := h1.off (mOk_UL h1.ok ir) f (fun x u w => no' (by rw [← u]; exact w))
  refine ⟨C', Ps', Pc', k1, ?_, h3, by show mS M1 + Ps ≤ _; omega, by show 64 * mZ M1 + Pc ≤ _; omega, (sE.mi (M := M1) (M' := mUL M1 o 0 r) rfl rfl).trans e⟩
  refine ⟨h2.1, fun x hx => ⟨(h2.2 x hx).1, (h2.2 x hx).2.1, fun nz => ?_⟩⟩
  obtain ⟨g1, g2, g3⟩ := (h2.2 x hx).2.2 (fun u => nz (Or.inl u))
  exact ⟨(funext fun _ => if_neg (fun u => nz (Or.inr u.1)) : mL (mUL M1 o 0 r) x = mL M1 x).trans g1, g2, g3⟩
theorem RI.ownlt (h : RI Nr M a) (u : own M a x) : x < mZ M ∧ a ≤ x := by
  have w := h.2.1
  have zz := w.2.2.2
  rcases u with u | ⟨q, hq, e⟩
  · exact ⟨by omega, u.1⟩
  · have p1 := (w.nu hq).2.2.1.2
    have p2 := (w.arr hq).2
    have p3 := nums_in hq
    exact ⟨by omega, by rw [e]; rcases p2 with y | y <;> omega⟩
/-- both objects, the script at b, the out array at o; n calls were made; the class's tape holds Nc characters, the reference's Nr -/
def IV0 (C : Nat → Prop) (Ps Pc o a b N : Nat) (xs : Int → Int) (t B0 B1 n : Nat) (Nc Nr : tP9) (M : mM) : Prop := CI Nc.2 C n t Ps Pc M ∧ RI Nr M a ∧ tE Nc M t ∧ (∀ x, C x → t ≤ x ∧ ¬ own M a x ∧ x ≠ o) ∧ (Scr b N xs M ∧ b < t ∧ t ≤ a) ∧ (mK M o = 33 ∧ 0 < mN M o ∧ o < mZ M ∧ ¬ own M a o) ∧ mS M ≤ B0 + Ps + 2 * psum (cp M) (nums a) + 6 * n ∧ 64 * mZ M ≤ B1 + Pc + 64 * psum (fun p => cp M p / 16) (nums a) + 64 * n
def IV (o a b N : Nat) (xs : Int → Int) (t B0 B1 n : Nat) (Nc Nr : tP9) (M : mM) : Prop := ∃ (C : Nat → Prop) (Ps Pc : Nat), IV0 C Ps Pc o a b N xs t B0 B1 n Nc Nr M
theorem Scr.fc (h : Scr b N xs M) (f : FC Y M M') (hb : b < mZ M) (ny : ¬ Y b) : Scr b N xs M' := by
  obtain ⟨f1, f2, f3⟩ := f.2 b hb
  unfold Scr at h ⊢
  rw [f1, f2, (f3 ny).2.2]
  exact h
theorem IV0.cls (h : IV0 C Ps Pc o a b N xs t B0 B1 n Nc Nr M) (q : cSt o C n t Ps Pc Nn M M1) : IV o a b N xs t B0 B1 (n + 1) Nn Nr M1 ∧ Scr b N xs M1 ∧ mK M1 a = 14 := by
  obtain ⟨h1, h2, h3, h4, ⟨h5, h5b, h5a⟩, ⟨o1, o2, o3, o4⟩, h7, h8⟩ := h
  obtain ⟨C', Ps', Pc', q1, q2, q3, q4, q5, q6⟩ := q
  have tz := h1.tlt
  have bz : b < mZ M := by omega
  have az : a < mZ M := by have := h2.2.1.2.2.2; omega
  obtain ⟨r1, r2, r3⟩ := h2.off q1.ok q2 (fun x u => u.elim (fun v => (h4 x v).2.1) (fun v => by rw [v]; exact o4))
  have e1 : psum (cp M1) (nums a) = psum (cp M) (nums a) := psum_cg _ (fun p hp => (r2 p hp).2.2.1)
  have e2 : psum (fun p => cp M1 p / 16) (nums a) = psum (fun p => cp M p / 16) (nums a) := psum_cg _ (fun p hp => by rw [(r2 p hp).2.2.1])
  have nb : ¬ (C b ∨ b = o) := fun u => by
    rcases u with u | u
    · have := (h4 b u).1
      omega
    · rw [← u, h5.1] at o1
      cases o1
  have sc : Scr b N xs M1 := h5.fc q2 bz nb
  have k14 : mK M1 a = 14 := by rw [(q2.2 a az).1]; exact h2.2.1.1.1
  have zz := q2.1.1
  refine ⟨⟨C', Ps', Pc', q1, r1, q6, fun x u => ?_, ⟨sc, h5b, h5a⟩, ⟨by rw [(q2.2 o o3).1]; exact o1, by rw [(q2.2 o o3).2.1]; exact o2, by omega, fun u => o4 ((r3 o).1 u)⟩, by rw [e1]; omega, by rw [e2]; omega⟩, sc, k14⟩
  rcases q3 x u with v | v
  · exact ⟨(h4 x v).1, fun w => (h4 x v).2.1 ((r3 x).1 w), (h4 x v).2.2⟩
  · exact ⟨by omega, fun w => by have := (h2.ownlt ((r3 x).1 w)).1; omega, by omega⟩
theorem IV.ref (h : IV o a b N xs t B0 B1 n Nc Nr M) (q1 : RI Nn M2 a) (q2 : FR M a M2) (q3 : mS M ≤ mS M2) : IV o a b N xs t B0 B1 n Nc Nn M2 := by
  obtain ⟨C, Ps, Pc, h1, h2, h3, h4, ⟨h5, h5b, h5a⟩, ⟨o1, o2, o3, o4⟩, h7, h8⟩ := h
  have f := q2.fc q3
  have tz := h1.tlt
  have bz : b < mZ M := by omega
  obtain ⟨c1, c2, c3⟩ := h1.off q1.1 f (fun x u v => (h4 x v).2.1 u)
  have ow : ∀ x, x < mZ M → own M2 a x → own M a x := fun x hx u => by
    rcases u with u | ⟨q, hq, e⟩
    · exact Or.inl u
    · rcases q2.2.2.2.1 q hq with w | w
      · exact Or.inr ⟨q, hq, by rw [e, w]⟩
      · omega
  have nb : ¬ own M a b := fun u => by have := (h2.ownlt u).2; omega
  have zz := f.1.1
  obtain ⟨m1, m2⟩ := q2.2.2.2.2
  exact ⟨C, Ps, Pc, c1, q1, tE.off h1 f (fun x u v => (h4 x v).2.1 u) h3, fun x u => ⟨(h4 x u).1, fun w => (h4 x u).2.1 (ow x (h1.clt u) w), (h4 x u).2.2⟩, ⟨h5.fc f bz nb, h5b, h5a⟩, ⟨by rw [(f.2 o o3).1]; exact o1, by rw [(f.2 o o3).2.1]; exact o2, by omega, fun u => o4 (ow o o3 u)⟩, by omega, by omega⟩
theorem IV.up (h : IV o a b N xs t B0 B1 n Nc Nr M) : IV o a b N xs t B0 B1 (n + 1) Nc Nr M := by
  obtain ⟨C, Ps, Pc, h1, h2, h3, h4, h5, h6, h7, h8⟩ := h
  exact ⟨C, Ps, Pc, h1.up, h2, h3, h4, h5, h6, by omega, by omega⟩
theorem IV0.scr (h : IV0 C Ps Pc o a b N xs t B0 B1 n Nc Nr M) : Scr b N xs M := h.2.2.2.2.1.1
theorem IV0.kt (h : IV0 C Ps Pc o a b N xs t B0 B1 n Nc Nr M) : mK M t = 1 := by
  obtain ⟨cn, cc, bc, q⟩ := h.1.tg
  exact q.2.1.1
theorem IV0.no (h : IV0 C Ps Pc o a b N xs t B0 B1 n Nc Nr M) : ¬ C o := fun u => (h.2.2.2.1 o u).2.2 rfl
theorem IV0.oz (h : IV0 C Ps Pc o a b N xs t B0 B1 n Nc Nr M) : o < mZ M := h.2.2.2.2.2.1.2.2.1
theorem IV0.oq (h : IV0 C Ps Pc o a b N xs t B0 B1 n Nc Nr M) (q : cQ0 c9 C n t Ps Pc M M1) : mK M1 o = 33 ∧ 0 < mN M1 o := by
  obtain ⟨C', Ps', Pc', q1, q2, q3⟩ := q
  have f := q2.2 o h.oz
  have g := h.2.2.2.2.2.1
  exact ⟨by rw [f.1]; exact g.1, by rw [f.2.1]; exact g.2.1⟩
theorem IV0.fin (h : IV0 C Ps Pc o a b N xs t B0 B1 n Nc Nr M) : mS M ≤ B0 + 1448000 + 5111808 + 6 * n ∧ 64 * mZ M ≤ B1 + 5300000 + 64 * 159744 + 64 * n := by
  have p1 := h.1.bd (fun x u => (h.2.2.2.1 x u).1)
  have p2 := h.2.1.bd
  have p3 := h.2.2.2.2.2.2
  omega
theorem i64_32 {r : Int} (h : i32 r) : i64 r := ⟨by have := h.1; omega, by have := h.2; omega⟩
theorem CiW.mono {y : mY} {hs : List (Nat × Nat × Nat × Nat)} {As : List mV} {Q Q' : Int → mM → Prop} (h : CiW G y hs d As M Q) (hq : ∀ x M', Q x M' → Q' x M') : CiW G y hs d As M Q' := by
  obtain ⟨r, M', h1, x, e, h2⟩ := h
  exact ⟨r, M', h1, x, e, hq x M' h2⟩
end LIV
end
section
/-! The law's helpers, whatever the class does. -/
section LHP
variable {G : mG} {d t a o b N n x Ps Pc B0 B1 : Nat} {Nc Nr Nn : tP9} {l l1 l2 : Int} {xs : Int → Int} {M M' M1 M2 : mM} {C Y : Nat → Prop} {c9 c8 : tG9}
theorem CI.gtt (h : CI c9 C n t Ps Pc M) : ∃ cn cc bc, GTT M (t + 62) cn cc bc := by
  obtain ⟨T, Kt, N, A, B, D, Cw, p, O, P, K, p', O', P', K', Ab, Be, Cm, U, Ag, Bg, Cg, cn, cc, bc, Ls, v, R, k, Z, h⟩ := h
  exact ⟨cn, cc, bc, h.2.2.1.2.2.2.2.2.1.gtt h.2.2.1.2.2.2.2.2.2.2⟩
theorem CI.gk (h : CI c9 C n t Ps Pc M) : mR M t 9 = t + 62 ∧ GK M (t + 62) := by
  obtain ⟨cn, cc, bc, q⟩ := h.tg
  exact ⟨q.2.1.2, q.2.2.1⟩
theorem CI.kp (h : CI c9 C n t Ps Pc M) : mK M (mR M t 4) = 6 ∧ mK M (mR M t 11) = 13 := by
  obtain ⟨T, Kt, N, A, B, D, Cw, p, O, P, K, p', O', P', K', Ab, Be, Cm, U, Ag, Bg, Cg, cn, cc, bc, Ls, v, R, k, Z, j⟩ := h
  have jn := j.2.2.2.1
  exact ⟨by rw [j.2.1.1.2.2.1]; exact j.2.1.2.2.2.2.1.1, by rw [jn.2.2.1.2.2.1.1]; exact (jn.1.2.1.1 0 (by decide)).1.1⟩
theorem hp_end (hT : TH G) (il : i32 l) (h : IV0 C Ps Pc o a b N xs t B0 B1 n Nc Nr M) : CiW G y_La_end hs_end 39 [vr t, vi l, vr o] M (fun _ M1 => cSt o C n t Ps Pc (if 0 ≤ l ∧ l ≤ 20 ∧ 20 ≤ Nc.1 then Nc.1 - 20 + l else Nc.1, Nc.2) M M1) := by
  have tp := h.2.2.1.1
  by_cases c : 0 ≤ l ∧ l ≤ 20 ∧ 20 ≤ mI M t 1
  · refine (n_La_end (d := 38) (l1 := 0) (l2 := 0) (o := o) h.kt (c_CA_end (d := 38) il h.1 c) (fun r M1 q => ⟨q.1, h.oq q.2.1⟩)).mono (fun x M2 q => ?_)
    obtain ⟨-, r, M1, q, rfl⟩ := q
    rw [tp] at c
    rw [if_pos c]
    exact q.2.1.out (Nn := (Nc.1 - 20 + l, Nc.2)) ⟨by rw [q.2.2.2.1, q.2.2.1, tp]; show Nc.1 + (l - 20) = Nc.1 - 20 + l; omega, h.2.2.1.2.xc q.2.2.2.2⟩ h.no h.oz (i64_32 q.1)
  · have c' := c
    rw [tp] at c'
    rw [if_neg c']
    exact ⟨_, _, x_La_end (d := 38) (l1 := 0) (l2 := 0) h.kt (t_CA_end hT (by decide) h.1.ok il h.kt c), 1, rfl, h.1.thr (Nn := (Nc.1, Nc.2)) h.2.2.1⟩
theorem CI.t6 (h : CI c9 C n t Ps Pc M) : mI M t 6 = c9.2.1 := by
  obtain ⟨T, Kt, N, A, B, D, Cw, p, O, P, K, p', O', P', K', Ab, Be, Cm, U, Ag, Bg, Cg, cn, cc, bc, Ls, v, R, k, Z, j⟩ := h
  exact j.2.1.2.2.2.2.2.2.2.1
theorem hp_explore (hT : TH G) (hF : FMs G) (hn : n ≤ 1000) (h : IV0 C Ps Pc o a b N xs t B0 B1 n Nc Nr M) : CiW G y_La_explore hs_explore 39 [vr t, vr o] M (fun x M1 => ∃ Nn : tP9, cSt o C n t Ps Pc Nn M M1 ∧ ((x = 0 ∧ Nc.2.2.1 ≠ 0 ∧ Nn = (Nc.1, Nc.2.1, exp9 Nc.2.2) ∧ mL M1 o 0 = Nc.2.2.2.2.2.2.1.1.1) ∨ (x = 1 ∧ Nc.2.2.1 = 0 ∧ Nn = Nc))) := by
  have e6 := h.1.t6
  by_cases c : mI M t 6 = 0
  · exact ⟨_, _, x_La_explore (d := 38) (l := 0) (l1 := 0) (l2 := 0) h.kt (t_CA_explore hT (by decide) h.1.ok h.kt c), 1, rfl, Nc, h.1.thr h.2.2.1, Or.inr ⟨rfl, by rw [← e6]; exact c, rfl⟩⟩
  · refine (n_La_explore (d := 38) (l := 0) (l1 := 0) (l2 := 0) (o := o) h.kt (c_CA_explore (d := 30) hF hn h.1 c) (fun r M1 q => ⟨q.1, h.oq q.2.1.1⟩)).mono (fun x M2 q => ?_)
    obtain ⟨ex, r, M1, q, rfl⟩ := q
    exact ⟨(Nc.1, Nc.2.1, exp9 Nc.2.2), q.2.1.1.out (Nn := (Nc.1, Nc.2.1, exp9 Nc.2.2)) ⟨q.2.1.2.1.trans h.2.2.1.1, q.2.1.2.2⟩ h.no h.oz (i64_32 q.1), Or.inl ⟨ex, by rw [← e6]; exact c, rfl, by rw [mL_UL, if_pos ⟨rfl, rfl⟩]; exact q.2.2⟩⟩
theorem CI.v3 (h : CI c9 C n t Ps Pc M) (u : 0 < mI M (t + 62) 0) : mI M (mR M t 4) 3 = c9.2.2.1 := by
  obtain ⟨T, Kt, N, A, B, D, Cw, p, O, P, K, p', O', P', K', Ab, Be, Cm, U, Ag, Bg, Cg, cn, cc, bc, Ls, v, R, k, Z, j⟩ := h
  have c0 := j.tg.2.2.2.cnt.1
  rw [j.2.1.1.2.2.1]
  exact (j.2.1.2.2.2.2.2.2.2.2 (j.2.2.2.2.2.2 (by omega))).1
theorem hp_variable (hT : TH G) (i1 : i32 l1) (i2 : i32 l2) (h : IV0 C Ps Pc o a b N xs t B0 B1 n Nc Nr M) : CiW G y_La_variable hs_variable 39 [vr t, vi l1, vi l2, vr o] M (fun x M1 => cSt o C n t Ps Pc Nc M M1 ∧ ((x = 0 ∧ ((0 ≤ l1 ∧ l1 < ((Nc.2.2.2.2.2.2.2.2.1.length : Nat) : Int)) ∧ (0 ≤ l2 ∧ l2 < Nc.2.2.2.1)) ∧ mL M1 o 0 = vaA9 Nc.2.2.2.2.2.2.2.2.1 l1 l2) ∨ (x = 1 ∧ ¬ ((0 ≤ l1 ∧ l1 < ((Nc.2.2.2.2.2.2.2.2.1.length : Nat) : Int)) ∧ (0 ≤ l2 ∧ l2 < Nc.2.2.2.1))))) := by
  have x3 := h.2.2.1.2.2.2.1
  have v3 := h.1.v3
  have cr : ((0 ≤ l1 ∧ l1 < mI M (t + 62) 0) ∧ (0 ≤ l2 ∧ l2 < mI M (mR M t 4) 3)) ↔ ((0 ≤ l1 ∧ l1 < ((Nc.2.2.2.2.2.2.2.2.1.length : Nat) : Int)) ∧ (0 ≤ l2 ∧ l2 < Nc.2.2.2.1)) := by
    rw [← x3]
    constructor
    · intro u
      have := v3 (by omega)
      exact ⟨u.1, by omega⟩
    · intro u
      have := v3 (by omega)
      exact ⟨u.1, by omega⟩
  by_cases c : (0 ≤ l1 ∧ l1 < mI M (t + 62) 0) ∧ (0 ≤ l2 ∧ l2 < mI M (mR M t 4) 3)
  · refine (n_La_variable (d := 38) (l := 0) (o := o) h.kt (e_CA_variable (d := 37) i1 i2 h.1 h.2.2.1.2 c) (fun r M1 q => ⟨q.1, h.oq q.2.1.1⟩)).mono (fun x M2 q => ?_)
    obtain ⟨ex, r, M1, q, rfl⟩ := q
    exact ⟨q.2.1.1.out (q.2.1.2.trans h.2.2.1) h.no h.oz (i64_32 q.1), Or.inl ⟨ex, cr.mp c, by rw [mL_UL, if_pos ⟨rfl, rfl⟩]; exact q.2.2⟩⟩
  · exact ⟨_, _, x_La_variable (d := 38) (l := 0) h.kt (t_CA_variable (d := 37) hT (by decide) h.1.ok i1 i2 h.kt h.1.gk.1 h.1.gk.2.1 rfl h.1.kp.1 c), 1, rfl, h.1.thr h.2.2.1, Or.inr ⟨rfl, fun u => c (cr.mpr u)⟩⟩
theorem hp_solve (hT : TH G) (h : IV0 C Ps Pc o a b N xs t B0 B1 n Nc Nr M) : CiW G y_La_solve hs_solve 39 [vr t, vr o] M (fun x M1 => ∃ Nn : tP9, cSt o C n t Ps Pc Nn M M1 ∧ ((x = 0 ∧ Nc.2.2.2.2.2.2.2.2.1 ≠ [] ∧ Nn = (Nc.1, Nc.2.1, kn9 Nc.2.2 (if mL M1 o 0 = 0 then 1 else 0)) ∧ (kdT Nc.2.2.2.2.2.2.2.2.2 → svA9 Nc.2.2.2.2.2.2.2.2.2 (mL M1 o 0))) ∨ (x = 1 ∧ Nc.2.2.2.2.2.2.2.2.1 = [] ∧ Nn = Nc))) := by
  have l29 := h.2.2.1.2.2.2.1
  by_cases c : mI M (t + 62) 0 = 0
  · exact ⟨_, _, x_La_solve (d := 38) (l := 0) (l1 := 0) (l2 := 0) h.kt (t_CA_solve hT (by decide) h.1.ok h.kt h.1.gk.1 h.1.gk.2.1 c), 1, rfl, Nc, h.1.thr h.2.2.1, Or.inr ⟨rfl, List.length_eq_zero_iff.mp (by omega), rfl⟩⟩
  · refine (n_La_solve (d := 38) (l := 0) (l1 := 0) (l2 := 0) (o := o) h.kt (c_CA_solve (d := 29) h.1 c) (fun r M1 q => ⟨q.1, h.oq q.2.1.1⟩)).mono (fun x M2 q => ?_)
    obtain ⟨ex, r, M1, q, rfl⟩ := q
    have ne : Nc.2.2.2.2.2.2.2.2.1 ≠ [] := fun z => c (by rw [l29, z]; rfl)
    obtain ⟨V, -, -, eT⟩ := h.2.2.1.2.2.2.2.2 ne
    refine ⟨(Nc.1, Nc.2.1, kn9 Nc.2.2 (if r = 0 then 1 else 0)), (q.2.1.1.e8).out (Nn := (Nc.1, Nc.2.1, kn9 Nc.2.2 (if r = 0 then 1 else 0))) ⟨q.2.1.2.1.1.trans h.2.2.1.1, h.2.2.1.2.kn q.2.1.2.1 q.2.1.2.2⟩ h.no h.oz (i64_32 q.1), Or.inl ⟨ex, ne, ?_⟩⟩
    have eL : mL (mUL M1 o 0 r) o 0 = r := by rw [mL_UL, if_pos ⟨rfl, rfl⟩]
    rw [eL]
    refine ⟨rfl, ?_⟩
    have k := q.2.2
    rw [l29, Int.toNat_natCast, eT] at k
    exact k
theorem hp_within (hT : TH G) (hN : va_Nc "java/lang/IllegalStateException" "java/lang/IllegalArgumentException" (gS G)) (il : i32 l) (h : IV0 C Ps Pc o a b N xs t B0 B1 n Nc Nr M) : CiW G y_La_within hs_within 39 [vr t, vi l, vr o] M (fun x M1 => cSt o C n t Ps Pc Nc M M1 ∧ ((x = 0 ∧ (0 ≤ l ∧ l ≤ 32) ∧ Nc.2.2.2.2.2.2.2.2.1 ≠ [] ∧ anA9 Nc.2.2.2.2.2.2.2.2.2 l.toNat (mL M1 o 0)) ∨ (x = 1 ∧ ¬ (0 ≤ l ∧ l ≤ 32)) ∨ (x = 2 ∧ (0 ≤ l ∧ l ≤ 32) ∧ Nc.2.2.2.2.2.2.2.2.1 = []))) := by
  have l29 := h.2.2.1.2.2.2.1
  by_cases c : 0 ≤ l ∧ l ≤ 32
  · by_cases c0 : mI M (t + 62) 0 = 0
    · exact ⟨_, _, x_La_within2 (d := 38) (l1 := 0) (l2 := 0) h.kt hN (t_CA_within2 hT (by decide) h.1.ok il c h.kt h.1.gk.1 h.1.gk.2.1 c0), 2, rfl, h.1.thr h.2.2.1, Or.inr (Or.inr ⟨rfl, c, List.length_eq_zero_iff.mp (by omega)⟩)⟩
    · refine (n_La_within (d := 38) (l1 := 0) (l2 := 0) (o := o) h.kt (c_CA_within (d := 29) c h.1 c0) (fun r M1 q => ⟨q.1, h.oq q.2.1.1⟩)).mono (fun x M2 q => ?_)
      obtain ⟨ex, r, M1, q, rfl⟩ := q
      have ne : Nc.2.2.2.2.2.2.2.2.1 ≠ [] := fun z => c0 (by rw [l29, z]; rfl)
      obtain ⟨V, -, -, eT⟩ := h.2.2.1.2.2.2.2.2 ne
      refine ⟨q.2.1.1.out (q.2.1.2.trans h.2.2.1) h.no h.oz (i64_32 q.1), Or.inl ⟨ex, c, ne, ?_⟩⟩
      rw [mL_UL, if_pos ⟨rfl, rfl⟩]
      have k := q.2.2
      rw [l29, Int.toNat_natCast, eT] at k
      exact k
  · exact ⟨_, _, x_La_within1 (d := 38) (l1 := 0) (l2 := 0) h.kt (t_CA_within1 hT (by decide) il c), 1, rfl, h.1.thr h.2.2.1, Or.inr (Or.inl ⟨rfl, c⟩)⟩
theorem hp_judge (hT : TH G) (hN : va_Nc "java/lang/IllegalStateException" "java/lang/IllegalArgumentException" (gS G)) (il : i32 l) (h : IV0 C Ps Pc o a b N xs t B0 B1 n Nc Nr M) : CiW G y_La_judge hs_judge 39 [vr t, vi l, vr o] M (fun _ M1 => cSt o C n t Ps Pc Nc M M1) := by
  by_cases c : l = 1 ∨ l = 2
  · by_cases c0 : mI M (t + 62) 0 = 0
    · exact ⟨_, _, x_La_judge2 (d := 38) (l1 := 0) (l2 := 0) h.kt hN (t_CA_judge2 hT (by decide) h.1.ok il c h.kt h.1.gk.1 h.1.gk.2.1 c0), 2, rfl, h.1.thr h.2.2.1⟩
    · refine (n_La_judge (d := 38) (l1 := 0) (l2 := 0) (o := o) h.kt (c_CA_judge (d := 29) c h.1 c0) (fun r M1 q => ⟨q.1, h.oq q.2.1⟩)).mono (fun x M2 q => ?_)
      obtain ⟨-, r, M1, q, rfl⟩ := q
      exact q.2.1.out (q.2.2.trans h.2.2.1) h.no h.oz (i64_32 q.1)
  · exact ⟨_, _, x_La_judge1 (d := 38) (l1 := 0) (l2 := 0) h.kt (t_CA_judge1 hT (by decide) il c), 1, rfl, h.1.thr h.2.2.1⟩
theorem hp_adopt (hT : TH G) (h : IV0 C Ps Pc o a b N xs t B0 B1 n Nc Nr M) : CiW G y_La_adopt hs_adopt 39 [vr t] M (fun x M1 => cSt o C n t Ps Pc Nc M M1 ∧ x = if Nc.2.2.2.2.2.2.2.1.2.2 = 0 then 1 else 0) := by
  have kne := h.2.2.1.2.2.1.2
  by_cases c : mI M (mR M t 11) 1 = 0
  · exact ⟨_, _, x_La_adopt (d := 38) (o := 0) (l := 0) (l1 := 0) (l2 := 0) h.kt (t_CA_adopt hT (by decide) h.1.ok h.kt rfl h.1.kp.2 c), 1, rfl, h.1.thr h.2.2.1, by rw [if_pos (by rw [← kne]; exact c)]⟩
  · refine (n_La_adopt (d := 38) (l := 0) (l1 := 0) (l2 := 0) h.kt (c_CA_adopt (d := 37) h.1 c)).mono (fun x M2 q => ?_)
    exact ⟨q.2.cs h.2.2.1, by rw [if_neg (by rw [← kne]; exact c)]; exact q.1⟩
theorem hp_choose (hT : TH G) (i1 : i32 l1) (i2 : i32 l2) (h : IV0 C Ps Pc o a b N xs t B0 B1 n Nc Nr M) : CiW G y_La_choose hs_choose 39 [vr t, vi l1, vi l2] M (fun x M1 => cSt o C n t Ps Pc Nc M M1 ∧ ((x = 0 ∧ cmA9 Nc.2.2.2.2.2.2.2.2.2 l1 l2 ≠ none) ∨ (x = 1 ∧ cmA9 Nc.2.2.2.2.2.2.2.2.2 l1 l2 = none))) := by
  have key : (¬ cmdP M (t + 62) (mI M (t + 62) 0).toNat l1 l2 ∧ cmA9 Nc.2.2.2.2.2.2.2.2.2 l1 l2 = none) ∨ (cmdP M (t + 62) (mI M (t + 62) 0).toNat l1 l2 ∧ cmA9 Nc.2.2.2.2.2.2.2.2.2 l1 l2 ≠ none) := by
    obtain ⟨cn, cc, bc, tg⟩ := h.1.tg
    have hc := tg.2.2.2.cnt.1
    rw [hc, Int.toNat_natCast]
    rcases h.2.2.1.2.cm tg.2.2.2 l1 l2 with ⟨y1, y2⟩ | ⟨y1, j, -, -, -, y2⟩
    · exact Or.inl ⟨y1, y2⟩
    · exact Or.inr ⟨y1, by rw [y2]; exact Option.some_ne_none _⟩
  obtain ⟨cn, cc, bc, g⟩ := h.1.gtt
  have gk := h.1.gk
  have g9 := gk.2.gk9.1
  have e0 := g.2.2.2
  have en : (mI M (t + 62) 0).toNat = cn := by rw [e0]; exact Int.toNat_natCast _
  by_cases c : cmdP M (t + 62) (mI M (t + 62) 0).toNat l1 l2
  · refine (n_La_choose (d := 38) (l := 0) h.kt (c_CA_choose (d := 36) i1 i2 h.1 c)).mono (fun x M2 q => ?_)
    exact ⟨q.2.cs h.2.2.1, Or.inl ⟨q.1, (key.resolve_left (fun u => u.1 c)).2⟩⟩
  · refine ⟨_, _, x_La_choose (d := 38) (o := 0) (l := 0) h.kt (t_CA_choose (d := 36) (F := t + 62 + 4) hT (by decide) h.1.ok i1 i2 h.kt gk.1 gk.2.1 g9.2.1.2.1 (g9.2.2.1 4 (by decide) (by decide)) ?_ (fun u => ?_) (fun u => c ?_)), 1, rfl, h.1.thr h.2.2.1, Or.inr ⟨rfl, (key.resolve_right (fun u => c u.1)).2⟩⟩
    · rw [g9.2.2.2.2.1, e0]
      have := g.1.1
      omega
    · have u2 := u.2
      rw [e0] at u2
      obtain ⟨x, y, e1, e2, e3, e4⟩ := g.2.2.1 l1.toNat (by omega)
      have et : (l1 + 1).toNat = l1.toNat + 1 := by omega
      have b4 := g.1.2
      rw [et, e1, e2]
      exact ⟨by omega, by omega⟩
    · unfold cmdP
      rw [en]
      rw [e0] at u
      exact u
end LHP
end
section
/-! Class and reference give the same answer to compile. -/
section SME
variable {w : Nat → Int} {c : Nat → Int} {N n a Nw A B D f k : Nat} {Mx Mw : mM} {r1 r2 p : Int} {kk : Int × Int × Int × xR9}
theorem ac_last : ∀ (f k : Nat), Ac w N f [50] k → w (N - 1) = 0 := by
  intro f
  induction f using Nat.strongRecOn with
  | ind f ih =>
    intro k h
    rcases ac_item h with ⟨c0, c1⟩ | ⟨-, e, g, hg, -, hac⟩
    · rw [show N - 1 = k by first | rfl | omega]
      exact c0
    · exact ih g hg (e + 1) hac
theorem ag_of (sp : spx kwx c N Mx A B D n) (rw9 : rwx kwx c N a Nw Mw) (hN1 : 1 ≤ Nw) (tx : ∀ j, j < N → txc Mw a j = c j) (hn : n + 1 = Nw) (e0 : nt Mw (a + 5) (Nw - 1) = 0) (e7 : nt Mw (a + 7) (Nw - 1) = N) : AgW (wk Mw a) (cwq kwx c N n) (nt Mw (a + 7)) (pl0 c N n) (nuq Mw a) (nq0 c N) (smx Mw a) (sm0 c N) Nw := by
  have wd : ∀ j, j < Nw → wk Mw a j = cwq kwx c N n j := fun j hj => (wd_same sp rw9 hN1 j hj).symm
  have lt : ∀ j, j < Nw → wk Mw a j ≠ 0 → j + 1 < Nw := fun j hj h => by
    by_cases y : j + 1 < Nw
    · exact y
    · exfalso
      have e : j = Nw - 1 := by omega
      rw [e] at h
      exact h e0
  have pr : ∀ j, j + 1 < Nw → nt Mw (a + 7) j = ((pwq c N j : Nat) : Int) ∧ nt Mw (a + 9) j = ((weq c N (pwq c N j) : Nat) : Int) ∧ pwq c N j < weq c N (pwq c N j) ∧ weq c N (pwq c N j) ≤ N := fun j hj => by
    obtain ⟨y1, y2, y3, y4, y5⟩ := rw9.1 j hj
    have b := weq_b (c := c) y1
    exact ⟨y4, y5, b.1, b.2⟩
  refine ⟨fun j hj => ⟨wd j hj, ?_, fun h2 => ?_⟩, fun x v hx hv h1 h2 => ?_⟩
  · unfold pl0
    by_cases y : j < n
    · rw [if_pos y]
      exact (pr j (by omega)).1
    · rw [if_neg y, show j = Nw - 1 by first | rfl | omega]
      exact e7
  · obtain ⟨y1, y2, y3, y4⟩ := pr j (lt j hj (by rw [h2]; decide))
    unfold nuq nq0
    rw [y1, y2, Int.toNat_natCast, show (((weq c N (pwq c N j) : Nat) : Int) - ((pwq c N j : Nat) : Int)).toNat = weq c N (pwq c N j) - pwq c N j by first | rfl | omega]
    exact numq_cg tx _ (by omega)
  · obtain ⟨x1, x2, x3, x4⟩ := pr x (lt x hx (by rw [h1]; decide))
    obtain ⟨v1, v2, v3, v4⟩ := pr v (lt v hv (by rw [h2]; decide))
    unfold smx sm0
    rw [x1, x2, v1, v2, Int.toNat_natCast, Int.toNat_natCast]
    refine ⟨fun u => ⟨u.1.symm, fun i hi => ?_⟩, fun u => ⟨u.1.symm, fun i hi => ?_⟩⟩
    · have u1 := u.1
      have t1 := tx (pwq c N x + i) (by omega)
      have t2 := tx (pwq c N v + i) (by omega)
      rw [← t1, ← t2]
      exact u.2 i (by omega)
    · have u1 := u.1
      have t1 := tx (pwq c N x + i) (by omega)
      have t2 := tx (pwq c N v + i) (by omega)
      have g := u.2 i (by omega)
      rw [← t1, ← t2] at g
      exact g
theorem RI.z {i9 : tI9} {M : mM} (h : RI (z9 i9) M a) (c : Nat → Int) : RI (0, c, i9) M a := ⟨h.1, h.2.1, ⟨Tpl.nil h.2.2.1.1.1, h.2.2.1.2⟩, h.2.2.2⟩
theorem same_ans {p1 : Int} {k1 : Int × Int × Int × xR9} (h1 : clR c N r1 p1 k1) (h2 : cmR c N a r2 p kk) : r1 = r2 ∧ (r1 = 0 → k1 = kk) ∧ (r1 ≠ 0 → p1 = p) := by
  obtain ⟨Mx, A, B, D, n, sp, h1⟩ := h1
  obtain ⟨Mw, Nw, hN1, rw9, tx, h2⟩ := h2
  have wd := wd_same sp rw9 hN1
  rcases h2 with ⟨e2, q, hq, ep, rf⟩ | ⟨rc, ⟨f, hac⟩, sF, eF, h2⟩
  · have rf := rf (cwq kwx c N n) wd
    rcases h1 with ⟨e1, q9, rf9, ep1⟩ | ⟨⟨b, rc⟩, -⟩
    · refine ⟨by rw [e1, e2], fun u => by rw [e1] at u; exact absurd u (by decide), fun _ => ?_⟩
      have eq := rf9.same rf
      subst eq
      rw [ep1, ep]
      unfold pl0
      by_cases y : q9 + 1 < Nw
      · have := (rw9.1 q9 y).2.2.2.1
        rw [if_pos (by rcases wd_cnt sp rw9 hN1 with ⟨u, -⟩ | ⟨u, -⟩ <;> omega)]
        exact this.symm
      · have e9 : q9 = Nw - 1 := by omega
        rcases wd_cnt sp rw9 hN1 with ⟨u1, -, u3⟩ | ⟨u1, -, -, u3⟩
        · rw [if_neg (by omega), e9]
          exact u3.symm
        · rw [if_pos (by omega), e9]
          exact u3.symm
    · exact (rf.not rc).elim
  · have rc := rc (cwq kwx c N n) wd
    rcases h1 with ⟨-, q9, rf, -⟩ | ⟨-, s1, es1, e1, e1p, k1e⟩
    · exact (rf.not rc).elim
    · have l0 : nt Mw (a + 5) (Nw - 1) = 0 := ac_last f 0 hac
      have hn : n + 1 = Nw ∧ nt Mw (a + 7) (Nw - 1) = N := by
        rcases wd_cnt sp rw9 hN1 with ⟨u1, -, u3⟩ | ⟨-, u2, -⟩
        · exact ⟨u1, u3⟩
        · rw [l0] at u2
          exact absurd u2 (by decide)
      have ag := ag_of sp rw9 hN1 tx hn.1 l0 hn.2
      have e := its_cg ag f Nw 0 s09 (by omega) hac (fun e he => absurd he (by simp [s09]))
      rw [← eF] at e
      rw [hn.1] at es1 k1e
      have ss : s1 = sF := by
        rw [e]
        exact es1
      subst ss
      rcases h2 with ⟨u0, u, u'⟩ | ⟨u0, u, -, u1, ug⟩
      · exact ⟨by rw [e1, u], fun v => absurd (e1.symm.trans v) u0, fun v => by rw [e1p v, u']⟩
      · have xe := xpg_same ag hac ug
        refine ⟨by rw [e1, u, u0], fun v => ?_, fun v => absurd (e1.trans u0) v⟩
        rw [k1e v, u1]
        refine congrArg (fun z => (((s1.2.1.1 : Nat) : Int), ((s1.2.1.2.1 : Nat) : Int), ((s1.2.1.2.2.1 : Nat) : Int), z)) ?_
        rw [eF]
        exact xe.symm
end SME
end
