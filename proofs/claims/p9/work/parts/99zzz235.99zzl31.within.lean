section
/-! The class's top: a table grows and is written; within's steps. -/
section NCR
variable {G : mG} {d t g s b i j a Ra n cn cc bc z w R' k' : Nat} {v R k Rn kn : Nat → Nat} {M M0 M' M1 : mM} {L L' L1 : List Nat} {W : Nat → Nat} {T C S Z : Nat → Prop} {r : Prop}
/-- a table that isn't known grows, then its rows are written -/
theorem Nms.gx (h : Nms L W s g b cn cc bc v R k M) (hc : Cnu Z L s v R k M) (i4 : i < 4) (fl : mI M (v i) 1 = 0) (gw : Gw L W (v i) M L' M1) (te : Te L' W (s + 1) g (v i) R' k' M1) (k5 : k' ≤ 512) (gr : (M1 = M ∧ L' = L ∧ R' = R i ∧ k' = k i) ∨ rvG L M (R i) (k i) L' M1 R' k') (p1 : ∀ j, j < k i → mR M1 R' j = mR M (R i) j) (p2 : ∀ j, k i ≤ j → j < k' → mR M1 R' j = mZ M + 1 + 5 * (j - k i)) (c1 : cn ≤ k') (q : NX L' W T C r (s + 1) M1 M') (hT : ∀ x, T x → Tso s M1 R' cn x) (hC : ∀ x, C x → Cso s M1 R' cn x) (sk : SK L' M' (s + 1)) : Nms L' W s g b cn cc bc v (up1 R i R') (up1 k i k') M' ∧ Sp Z s v M M' L' (up1 R i R') (up1 k i k') ∧ Rq L k M L' (up1 k i k') M' ∧ (∀ j, j ≤ 9 → mI M' (g + j) = mI M (g + j)) ∧ (∀ j, j < 4 → mI M' (v j) = mI M (v j)) ∧ (¬ C (s + 30) → mI M' (s + 30) = mI M (s + 30)) := by
  obtain ⟨N2, S2⟩ := h.gw i4 gw te k5 gr p1 p2 fl
  have P2 : Sp Z s v M M1 L' (up1 R i R') (up1 k i k') := gw.fc i4 hc h.2.1 te gr p1 p2
  have Q2 := rv_rq (R := R) i4 gw gr
  have FB := S2.2.1.1
  have q' : NX L' W (Tso s M1 R' cn) (Cso s M1 R' cn) True (s + 1) M1 M' := q.mono FB hT (S2.tl c1) hC (S2.cl c1) (fun _ => trivial)
  obtain ⟨S4, G4, -⟩ := S2.nx c1 q' sk
  have hT' : ∀ x, Tso s M1 R' cn x → (s ≤ x ∧ x ≤ s + 133) ∨ Trw M1 (up1 R i R' i) cn x := fun x u => by rw [up1_s]; exact tso_lo u
  have hC' : ∀ x, Cso s M1 R' cn x → (s ≤ x ∧ x ≤ s + 133) ∨ Irw M1 (up1 R i R' i) cn x := fun x u => by rw [up1_s]; exact cso_lo u
  have ck : cn ≤ up1 k i k' i := by rw [up1_s]; exact c1
  have V4 := (N2.nx i4 q' ck hT' hC').2.1
  have V2 : ∀ j, j < 4 → mI M1 (v j) = mI M (v j) := fun j hj => (gw.2.2.2.2.1.2 _ (h.2.1.1 j hj).1.2.2.2.2.1.1.1).2.2.2.2 (fun u => u)
  have ei : ∀ x, x < mZ M → mI M1 x = mI M x := fun x hx => (gw.2.2.2.2.1.2 x hx).2.2.2.2 (fun u => u)
  refine ⟨N2.nx2 i4 q' ck hT' hC' S4.sb (fun _ kn => absurd (by rw [(V4 i i4).2, V2 i i4]; exact fl) kn), P2.trans (q'.fc FB P2.2 N2.2.1 (fun x u => ?_)), Q2.trans (q'.rq FB), fun j hj => by rw [G4 j hj, ei _ (h.1.2.2.2 j hj).1], fun j hj => by rw [(V4 j hj).2, V2 j hj], fun nc => ?_⟩
  · rcases hC' x u with w | ⟨l, hl, w⟩
    · exact P2.2.1 x w.1 w.2
    · rw [w]; exact (P2.2.2.2 i i4).2.2 l (by omega)
  · have o30 := h.1.2.2.1 (s + 30) st30
    rw [(q.oth (S2.2.2.1 (s + 30) st30) (by omega)).2.2.2 nc, ei _ o30.1]
/-- withins and earlier change places -/
def sg (i : Nat) : Nat := if i = 1 then 2 else if i = 2 then 1 else i
theorem sg_lt (h : i < 4) : sg i < 4 := by
  unfold sg
  split
  · decide
  · split <;> omega
theorem sg_inj (h : sg i = sg j) : i = j := by
  unfold sg at h
  split at h <;> split at h <;> (try split at h) <;> (try split at h) <;> omega
theorem Tb0.sw (h : Tb0 L M s b v R k) : Tb0 L M s b (fun i => v (sg i)) (fun i => R (sg i)) (fun i => k (sg i)) := ⟨fun i hi => h.1 (sg i) (sg_lt hi), fun i j hi hj ij => h.2 (sg i) (sg j) (sg_lt hi) (sg_lt hj) (fun e => ij (sg_inj e))⟩
theorem Nms.sw (h : Nms L W s g b cn cc bc v R k M) (f2 : mI M (v 2) 1 = 0) : Nms L W s g b cn cc bc (fun i => v (sg i)) (fun i => R (sg i)) (fun i => k (sg i)) M := by
  refine ⟨h.1, h.2.1.sw, h.2.2.1, fun i hi i2 => ?_⟩
  have : i = 0 ∨ i = 1 ∨ i = 3 := by omega
  rcases this with e | e | e <;> subst e
  · exact h.2.2.2 0 (by decide) (by decide)
  · exact fun kn => absurd f2 kn
  · exact h.2.2.2 3 (by decide) (by decide)
theorem Cnu.sw (h : Cnu Z L s v R k M) : Cnu Z L s (fun i => v (sg i)) (fun i => R (sg i)) (fun i => k (sg i)) M := ⟨h.1, h.2.1, fun i hi => h.2.2 (sg i) (sg_lt hi)⟩
theorem Pn.sw : Pn L (fun i => k (sg i)) M = Pn L k M ∧ Qn L (fun i => k (sg i)) M = Qn L k M ∧ k (sg 0) + k (sg 1) + k (sg 2) + k (sg 3) = k 0 + k 1 + k 2 + k 3 := by
  have e0 : sg 0 = 0 := rfl
  have e1 : sg 1 = 2 := rfl
  have e2 : sg 2 = 1 := rfl
  have e3 : sg 3 = 3 := rfl
  unfold Pn Qn
  simp only [e0, e1, e2, e3]
  exact ⟨by omega, by omega, by omega⟩
/-- a move from table 2 to table 1 -/
def mvR (Z : Nat → Prop) (L : List Nat) (W : Nat → Nat) (s g b cn cc bc : Nat) (v k : Nat → Nat) (n9 : Nat → Rat) (M : mM) (x : Int) (M' : mM) : Prop := (x = 0 ∨ x = 1) ∧ ∃ L' Rn kn, Nms L' W s g b cn cc bc v Rn kn M' ∧ Sp Z s v M M' L' Rn kn ∧ Rq L k M L' kn M' ∧ (∀ j, j ≤ 9 → mI M' (g + j) = mI M (g + j)) ∧ (∀ j, j < 4 → mI M' (v j) = mI M (v j)) ∧ mI M' (s + 30) = mI M (s + 30) ∧ (x ≠ 0 → cn ≤ kn 1 ∧ Rok M' (Rn 1) cn ∧ ∀ j, j < cn → rwv M' (Rn 1) j = n9 j ∧ ft9 (n9 j)) ∧ (x = 0 → ∃ j, j < cn ∧ ¬ ft9 (n9 j))
theorem n_move {n9 : Nat → Rat} (hn : nxH M g (R 2) cn n9) (h : Nms L W s g b cn cc bc v R k M) (hc : Cnu Z L s v R k M) (f1 : mI M (v 1) 1 = 0) (ck : cn ≤ k 2) (ro : Rok M (R 2) cn) (hWr : ∀ x, b ≤ x → 17 ≤ W x ∧ W x ≤ 20000) (hWs : ∀ x, s ≤ x → x ≤ s + 133 → 300 ≤ W x) : Ci G y_Sc_move (d + 8) [vr (s + 1), vr g, vr (v 2), vr (v 1)] M (mvR Z L W s g b cn cc bc v k n9 M) := by
  have b1 := h.2.2.1.1
  have t1 := h.2.1.1 1 (by decide)
  have t2 := h.2.1.1 2 (by decide)
  have bz := h.2.2.1.2
  refine (f_move (d := d) (B := 300) hn (h.1.sva b1 t1).te (h.1.sva b1 t2).te (h.2.1.2 2 1 (by decide) (by decide) (by decide)).2.1 t1.2.2.2.1 t2.2.2.2.1 ck h.1.1.2.2.2.2 ro (h.2.1.2 1 2 (by decide) (by decide) (by decide)).1 (fun x u => w_tat hWs x (Or.inl u)) (by decide) (by decide) (fun x hx => by have := hWr x (by omega); omega) (fun l hl => ?_)).mono (fun x M' q => ?_)
  · have := t1.2.1 l hl
    have a1 := hWr (mR M (R 1) l + 1) (by omega)
    have a3 := hWr (mR M (R 1) l + 3) (by omega)
    omega
  obtain ⟨L', R', k', M1, gw, te, gr, ⟨c1, c2, k5⟩, p1, p2, ⟨x01, l, lc, mv, hl, hX, hf⟩, -⟩ := q
  have FB := te.1.2.1
  have q := mv.1.nx FB
  obtain ⟨N, P, Q, G', V, e30⟩ := h.gx (i := 1) hc (by decide) f1 gw te k5 gr p1 (fun j a b => (p2 j a b).1) c1 q (fun x u => u.elim Or.inl (fun u => Or.inr (Or.inr (Or.inr u)))) (fun x u => u.elim Or.inl (fun u => Or.inr (Or.inr (Or.inr (Or.inr (Or.inr u)))))) mv.2.1.1.2.2
  refine ⟨x01, L', up1 R 1 R', up1 k 1 k', N, P, Q, G', V, e30 (fun u => ?_), fun u => ⟨c1, ?_, fun j hj => ?_⟩, fun u => ⟨l, hf u⟩⟩
  · rcases u with u | ⟨l, hl, u⟩
    · unfold Ipk at u; omega
    · have tb := (N.2.1.1 1 (by decide)).2.1 l (by rw [up1_s]; omega)
      have e : mR M' R' = mR M1 R' := mv.2.2.2.1.1
      rw [up1_s, e] at tb
      omega
  · rw [up1_s, ← hl u]
    exact mv.2.2.2.2.2.2
  · have el := hl u
    have e := hX.2.2 j (by omega)
    rw [up1_s, e]
    refine ⟨rfl, ?_⟩
    rw [← e]
    exact mv.2.2.2.2.2.2.fit (by omega) (mv.2.1.1.2.1.nn0 (mv.2.1.2.2.1.2.2.2.2.2 j (by omega)).2.1)
/-- the table of withins begins -/
theorem n_begin {n9 : Nat → Rat} (hn : ∀ j, j < cn → n9 j = if mI M (g + 2) j = 3 then 1 else 0) (h : Nms L W s g b cn cc bc v R k M) (hc : Cnu Z L s v R k M) (f1 : mI M (v 1) 1 = 0) (hWr : ∀ x, b ≤ x → 17 ≤ W x ∧ W x ≤ 20000) : Cv G y_Fs_begin (d + 4) [vr (v 1), vr g] M (mvR Z L W s g b cn cc bc v k n9 M 1) := by
  have b1 := h.2.2.1.1
  have t1 := h.2.1.1 1 (by decide)
  have bz := h.2.2.1.2
  have c5 := h.1.1.2.2.2.2.1.1
  refine (f_begin (d := d) (h.1.sva b1 t1).te t1.2.2.2.1 c5 h.cnt.1 (fun x hx => by have := hWr x (by omega); omega)).mono (fun M' q => ?_)
  obtain ⟨L', R', k', M1, gw, te, ⟨c1, c2⟩, gr, p1, p2, nb, bg, bw⟩ := q
  have k5 : k' ≤ 512 := by
    have := t1.2.2.2.1
    rcases gr with ⟨-, -, -, e⟩ | ⟨-, e, -⟩ <;> omega
  have FB := te.1.2.1
  obtain ⟨N, P, Q, G', V, e30⟩ := h.gx (i := 1) hc (by decide) f1 gw te k5 gr p1 (fun j a b => (p2 j a b).1) c1 (nb.nx FB) (fun x u => Or.inr (Or.inr (Or.inr u))) (fun x u => Or.inr (Or.inr (Or.inr (Or.inr (Or.inr u))))) (nb.sk FB te.1.2.2)
  have t1' := N.2.1.1 1 (by decide)
  rw [up1_s, up1_s] at t1'
  have rR := (nb.nx FB).rwt FB te.2.2.1 (by have := t1'.2.2.2.2; omega) (by have := t1'.2.2.2.2; omega)
  refine ⟨Or.inr rfl, L', up1 R 1 R', up1 k 1 k', N, P, Q, G', V, e30 (fun ⟨l, hl, u⟩ => ?_), fun _ => ⟨c1, ?_, fun j hj => ?_⟩, fun u => absurd u (by decide)⟩
  · have tb := t1'.2.1 l (by omega)
    rw [rR.2] at tb
    omega
  · rw [up1_s]
    have p1' : (1 : Int) < 2 ^ (30 * 16) := by decide +kernel
    refine ⟨fun l hl => ?_, fun l hl => ?_, fun l hl => (bg l hl).2.2⟩
    · obtain ⟨g1, g3, -⟩ := bg l hl
      rw [g3]
      exact ⟨by decide, p1', by rcases g1 with e | e <;> rw [e] <;> omega⟩
    · obtain ⟨g1, g3, -⟩ := bg l hl
      rw [g3]
      exact ⟨by rcases g1 with e | e <;> rw [e] <;> decide, by decide⟩
  · rw [up1_s, hn j hj]
    refine ⟨?_, ft_01 (Classical.em _)⟩
    have e1 := bw j hj
    rw [G' 2 (by decide)] at e1
    have z0 : ((0 : Int) : Rat) = 0 := rfl
    have z1 : ((1 : Int) : Rat) = 1 := rfl
    unfold rwv
    rw [e1, (bg j hj).2.1]
    split
    · rw [z1]; grind
    · rw [z0, z1]; grind
end NCR
end
section
/-! The class's top: within. -/
section NCS
variable {G : mG} {d t b i j a Ra n cn cc bc z w : Nat} {v v0 R k k0 Rn kn : Nat → Nat} {M M0 M' M1 : mM} {L L0 L' L1 : List Nat} {W : Nat → Nat} {T C S Z : Nat → Prop} {r : Prop}
/-- within on its way: the tables 1 and 2 may have changed places -/
def wnI (Z : Nat → Prop) (L0 : List Nat) (W : Nat → Nat) (t b cn cc bc : Nat) (v0 k0 : Nat → Nat) (M0 : mM) (v : Nat → Nat) (L : List Nat) (R k : Nat → Nat) (M : mM) : Prop := Nms L W (t + 85) (t + 62) b cn cc bc v R k M ∧ Tr t v M ∧ (v = v0 ∨ v = fun i => v0 (sg i)) ∧ FC (fun x => Z x ∨ x = t) M0 M ∧ Cnu (Zn Z M0 M) L (t + 85) v R k M ∧ Rq L0 k0 M0 L k M ∧ ((∀ j, j ≤ 9 → mI M (t + 62 + j) = mI M0 (t + 62 + j)) ∧ mI M t = mI M0 t ∧ mI M (v0 0) = mI M0 (v0 0) ∧ mI M (v0 3) = mI M0 (v0 3) ∧ mI M (t + 85 + 30) = mI M0 (t + 85 + 30)) ∧ mI M (v 2) 1 = 0 ∧ ∀ i, i ≠ 12 → i ≠ 13 → mR M t i = mR M0 t i
/-- what one more move makes, told by the tables -/
theorem wi_nx {g : Nat} {Rb m : Nat} (hG : GTT M g cn cc bc) (hv : ∀ j, j < cn → rwv M Rb j = wi9 (xtm M g cn) m j) : nxH M g Rb cn (wi9 (xtm M g cn) (m + 1)) := fun j hj => by
  have gt : (xtm M g cn)[j]? = some (stm M g j) := by rw [xtm_map, rget, if_pos hj]
  have e1 : wi9 (xtm M g cn) (m + 1) j = stv9 (wi9 (xtm M g cn) m) (stm M g j) := by
    show (((xtm M g cn)[j]?).map (fun y => stv9 (wi9 (xtm M g cn) m) y)).getD 0 = _
    rw [gt]
    rfl
  refine ⟨fun u => ?_, fun x y u1 u2 u3 => ?_⟩
  · have l0 : (stm M g j).2.length = 0 := by
      show (cml M g (mI M (g + 4) j).toNat ((mI M (g + 4) (j + 1)).toNat - (mI M (g + 4) j).toNat)).length = 0
      rw [cml_map, List.length_map, List.length_range, u]
      omega
    have e2 : stv9 (wi9 (xtm M g cn) m) (stm M g j) = if mI M (g + 2) j = 3 then 1 else 0 := by
      unfold stv9
      rw [l0]
      rfl
    rw [e1, e2, hv j hj]
    cases m with
    | zero =>
      show _ = (((xtm M g cn)[j]?).map (fun y => if y.1 = 3 then (1 : Rat) else 0)).getD 0
      rw [gt]
      rfl
    | succ m =>
      show _ = (((xtm M g cn)[j]?).map (fun y => stv9 (wi9 (xtm M g cn) m) y)).getD 0
      rw [gt]
      show _ = stv9 (wi9 (xtm M g cn) m) (stm M g j)
      unfold stv9
      rw [l0]
      rfl
  · obtain ⟨x', y', g1, g2, g3, g4⟩ := hG.2.2.1 j hj
    have ll : (stm M g j).2 = cml M g x (y - x) := by
      unfold stm
      rw [u1, u2, Int.toNat_natCast, Int.toNat_natCast]
    have ln : (stm M g j).2.length = (y - 1 - x) + 1 := by
      rw [ll, cml_map, List.length_map, List.length_range]
      omega
    have e2 : stv9 (wi9 (xtm M g cn) m) (stm M g j) = bst9 (mI M (g + 2) j = 1) (fun i => wr9 (wi9 (xtm M g cn) m) (cq0 (stm M g j) i)) (y - 1 - x) := by
      unfold stv9
      rw [ln]
      rfl
    rw [e1, e2]
    refine bst_cg _ (fun i hi => ?_)
    have ec : cq0 (stm M g j) i = cmm M g (x + i) := cq0_of (by rw [ll, cml_map, rget, if_pos (by omega)])
    rw [ec]
    exact wr_cg (fun b hb => (hv _ (cmm_lt (hG.2.1 (x + i) (by omega)) b hb)).symm)
theorem cml_same {g x n : Nat} (e : ∀ i, i ≤ 9 → mI M' (g + i) = mI M (g + i)) : cml M' g x n = cml M g x n := by
  have f : (fun t => cmm M' g (x + t)) = (fun t => cmm M g (x + t)) := funext (fun t => cmm_same e)
  rw [cml_map, cml_map, f]
theorem xtm_same {g : Nat} (e : ∀ i, i ≤ 9 → mI M' (g + i) = mI M (g + i)) : xtm M' g cn = xtm M g cn := by
  have f : stm M' g = stm M g := by
    funext j
    unfold stm
    rw [e 2 (by decide), e 4 (by decide), cml_same e]
  rw [xtm_map, xtm_map, f]
theorem xtm_len {g : Nat} : (xtm M g cn).length = cn := by rw [xtm_map, List.length_map, List.length_range]
def wnQ (Z : Nat → Prop) (L0 : List Nat) (W : Nat → Nat) (t b cn cc bc : Nat) (v0 k0 : Nat → Nat) (n : Nat) (M0 : mM) (x : Int) (M : mM) : Prop := (i32 x ∧ anA9 (xtm M0 (t + 62) cn) n x) ∧ ∃ v L R k, wnI Z L0 W t b cn cc bc v0 k0 M0 v L R k M
theorem rsm17 (h : Rsm M Ra cn 16) : Rsm M Ra cn 17 := fun l hl => by
  obtain ⟨a1, a2, a3⟩ := h l hl
  have p : (2 : Int) ^ (30 * 16) ≤ 2 ^ (30 * 17) := by decide +kernel
  exact ⟨a1, Int.lt_of_lt_of_le a2 p, Int.lt_of_lt_of_le a3 p⟩
theorem vsw (hv : v = v0 ∨ v = fun i => v0 (sg i)) : (v 0 = v0 0 ∧ v 3 = v0 3) ∧ ((fun i => v (sg i)) = v0 ∨ (fun i => v (sg i)) = fun i => v0 (sg i)) := by
  rcases hv with e | e
  · subst e
    exact ⟨⟨rfl, rfl⟩, Or.inr rfl⟩
  · subst e
    refine ⟨⟨rfl, rfl⟩, Or.inl ?_⟩
    funext i
    show v0 (sg (sg i)) = v0 i
    congr 1
    unfold sg
    by_cases c1 : i = 1
    · rw [if_pos c1, if_neg (by decide), if_pos rfl, c1]
    · rw [if_neg c1]
      by_cases c2 : i = 2
      · rw [if_pos c2, if_pos rfl, c2]
      · rw [if_neg c2, if_neg c1, if_neg c2]
theorem zn_no {x : Nat} (nz : ¬ Z x) (hx : x < mZ M) : ¬ Zn Z M M' x := fun u => u.elim nz (fun u => by omega)
/-- a step of numbers in within -/
theorem wnI.mv {n9 : Nat → Rat} {x : Int} (h : wnI Z L0 W t b cn cc bc v0 k0 M0 v L R k M) (nz : ¬ Z t) (tz : t < mZ M0) (f1 : mI M (v 1) 1 = 0) (q : mvR (Zn Z M0 M) L W (t + 85) (t + 62) b cn cc bc v k n9 M x M') : ∃ L' Rn kn, wnI Z L0 W t b cn cc bc v0 k0 M0 v L' Rn kn M' ∧ mI M' (v 1) 1 = 0 ∧ (x ≠ 0 → cn ≤ kn 1 ∧ Rok M' (Rn 1) cn ∧ ∀ j, j < cn → rwv M' (Rn 1) j = n9 j ∧ ft9 (n9 j)) ∧ (x = 0 → ∃ j, j < cn ∧ ¬ ft9 (n9 j)) := by
  obtain ⟨h1, h2, h3, h4, h5, h6, ⟨h7, h8, h9, h10, h11⟩, h12, h14⟩ := h
  obtain ⟨-, L', Rn, kn, q1, q2, q3, q4, q5, q6, q7⟩ := q
  obtain ⟨⟨v00, v03⟩, -⟩ := vsw h3
  have nt : ¬ Zn Z M0 M t := zn_no nz tz
  obtain ⟨r1, r2⟩ := h2.fc q2.1 nt
  have rt : mR M' t = mR M t := ((q2.1.2 t h2.2.2.2.2).2.2 nt).2.1
  have f' : FC (Zn (fun x => Z x ∨ x = t) M0 M) M M' := q2.1.mono (fun x _ u => u.elim (fun u => Or.inl (Or.inl u)) Or.inr)
  refine ⟨L', Rn, kn, ⟨q1, r1, h3, h4.trans f', q2.2.cg (fun x u => (Zn.trans h4.1.1 q2.1.1.1).mp u), h6.trans q3, ⟨fun j hj => by rw [q4 j hj, h7 j hj], by rw [r2, h8], by rw [← v00, q5 0 (by decide), v00, h9], by rw [← v03, q5 3 (by decide), v03, h10], by rw [q6, h11]⟩, by rw [q5 2 (by decide)]; exact h12, fun i a b => by rw [rt]; exact h14 i a b⟩, by rw [q5 1 (by decide)]; exact f1, q7⟩
/-- the tables change places -/
theorem wnI.sw {M31 : mM} (h : wnI Z L0 W t b cn cc bc v0 k0 M0 v L R k M) (nz : ¬ Z t) (tz : t < mZ M0) (f1 : mI M (v 1) 1 = 0) (e1 : M31 = mUR M t 12 (mR M t 13)) (e2 : M' = mUR M31 t 13 (mR M t 12)) : wnI Z L0 W t b cn cc bc v0 k0 M0 (fun i => v (sg i)) L (fun i => R (sg i)) (fun i => k (sg i)) M' ∧ mI M' (v 2) 1 = 0 ∧ mI M' = mI M ∧ (∀ a, a ∈ L → nv M' a = nv M a) ∧ (mR M' (R 1) = mR M (R 1)) := by
  obtain ⟨h1, h2, h3, h4, h5, h6, ⟨h7, h8, h9, h10, h11⟩, h12, h14⟩ := h
  obtain ⟨-, hv⟩ := vsw h3
  have nt : ¬ Zn Z M0 M t := zn_no nz tz
  have eI : mI M' = mI M := by rw [e2, mI_UR, e1, mI_UR]
  have o' : mOk M' := by rw [e2]; refine mOk_UR ?_; rw [e1]; exact mOk_UR h1.cnt.2.2.2
  have z' : mZ M' = mZ M ∧ mS M' = mS M := by rw [e2, mZ_UR, mS_UR, e1, mZ_UR, mS_UR]; exact ⟨rfl, rfl⟩
  have rr : ∀ x i, mR M' x i = if x = t ∧ i = 13 then mR M t 12 else if x = t ∧ i = 12 then mR M t 13 else mR M x i := fun x i => by rw [e2, mR_UR, e1, mR_UR]
  have f : FC (fun x => x = t) M M' := by
    refine ⟨⟨by rw [z'.1]; exact Nat.le_refl _, by rw [z'.2]; exact Nat.le_refl _⟩, fun x _ => ⟨by rw [e2, mK_UR, e1, mK_UR], by rw [e2, mN_UR, e1, mN_UR], fun nx => ⟨by rw [e2, mL_UR, e1, mL_UR], ?_, by rw [eI]⟩⟩⟩
    funext i
    rw [rr, if_neg (fun u => nx u.1), if_neg (fun u => nx u.1)]
  have no : ∀ x, Zm L (t + 85) v R k M x → ¬ x = t := fun x u e => nt (by rw [← e]; exact zm_in h5 x u)
  obtain ⟨N, ks, cps⟩ := h1.off f o' no (fun i hi => by omega)
  have N' := N.sw (by rw [eI]; exact h12)
  obtain ⟨t1, ⟨t2, t3⟩, ⟨t4, t5, t6, t7⟩, ⟨t8, t9, t10⟩, t11⟩ := h2
  have rt : ∀ i, i ≠ 12 → i ≠ 13 → mR M' t i = mR M t i := fun i a b => by rw [rr, if_neg (fun u => b u.2), if_neg (fun u => a u.2)]
  have ecp := pn_cg (k := k) cps
  have sw1 := Pn.sw (L := L) (k := k) (M := M')
  have rq : Rq L k M L (fun i => k (sg i)) M' := by
    unfold Rq
    rw [sw1.1, sw1.2.1, ecp.1, ecp.2, z'.1, z'.2, sw1.2.2]
    exact ⟨Nat.le_refl _, Nat.le_refl _, Nat.le_refl _, fun _ u => u, fun x u => u.sm (f.sm u.1.2.2 (fun e => by have k1 := u.1.1; rw [e, t1] at k1; omega)) f.1.1⟩
  refine ⟨⟨N', ⟨by rw [(f.2 t t11).1]; exact t1, ⟨by rw [rt 9 (by decide) (by decide)]; exact t2, by rw [rt 10 (by decide) (by decide)]; exact t3⟩, ⟨by rw [rt 11 (by decide) (by decide)]; exact t4, ?_, ?_, by rw [rt 14 (by decide) (by decide)]; exact t7⟩, ⟨by rw [rt 15 (by decide) (by decide)]; exact t8, by rw [rt 16 (by decide) (by decide)]; exact t9, by rw [rt 17 (by decide) (by decide)]; exact t10⟩, by rw [z'.1]; exact t11⟩, hv, h4.trans (f.mono (fun x _ u => Or.inl (Or.inr u))), ?_, h6.trans rq, ⟨fun j hj => by rw [eI]; exact h7 j hj, by rw [eI]; exact h8, by rw [eI]; exact h9, by rw [eI]; exact h10, by rw [eI]; exact h11⟩, by rw [eI]; exact f1, fun i a b => by rw [rt i a b]; exact h14 i a b⟩, by rw [eI]; exact h12, eI, fun a ha => (h1.1.2.1.1.sm ks.2.2.1 ks.1).2 a ha |>.1, ?_⟩
  · rw [rr, if_neg (fun u => absurd u.2 (by decide)), if_pos ⟨rfl, rfl⟩]; exact t6
  · rw [rr, if_pos ⟨rfl, rfl⟩]; exact t5
  · have c := (ks.cnu h5).sw
    have : Zn Z M0 M' = Zn Z M0 M := by funext x; unfold Zn; rw [z'.1]
    rw [this]
    exact c
  · exact (ks.2.2.2 1 (by decide)).2.1.2.2.1
theorem s_wi57 {l : Nat} (hl : l ≤ 32) (nz : ¬ Z t) (tz : t < mZ M0) (hWr : ∀ x, b ≤ x → 17 ≤ W x ∧ W x ≤ 20000) (hWs : ∀ x, t + 85 ≤ x → x ≤ t + 85 + 133 → 300 ≤ W x) : ∀ (u m : Nat) (v : Nat → Nat) (L : List Nat) (R k : Nat → Nat) (M : mM), l ≤ m + u → m ≤ l → wnI Z L0 W t b cn cc bc v0 k0 M0 v L R k M → mI M (v 1) 1 = 0 → cn ≤ k 1 → Rok M (R 1) cn → (∀ j, j < cn → rwv M (R 1) j = wi9 (xtm M0 (t + 62) cn) m j) → (∀ r, r ≤ m → ∀ j, j < cn → ft9 (wi9 (xtm M0 (t + 62) cn) r j)) → h_CA_within_57 G (d + 8) t l m M (wnQ Z L0 W t b cn cc bc v0 k0 l M0) := by
  intro u
  have fin : ∀ {v : Nat → Nat} {L : List Nat} {R k : Nat → Nat} {M M28 : mM}, wnI Z L0 W t b cn cc bc v0 k0 M0 v L R k M → cn ≤ k 1 → Rok M (R 1) cn → (∀ r, r ≤ l → ∀ j, j < cn → ft9 (wi9 (xtm M0 (t + 62) cn) r j)) → M28 = mUI M (v 1) 1 1 → wnQ Z L0 W t b cn cc bc v0 k0 l M0 0 M28 := fun {v L R k M M28} h ck ro ff e => by
    obtain ⟨h1, h2, h3, h4, h5, h6, ⟨h7, h8, h9, h10, h11⟩, h12, h14⟩ := h
    obtain ⟨⟨v00, v03⟩, -⟩ := vsw h3
    obtain ⟨N, f, o⟩ := h1.mark (i := 1) (by decide) ⟨ck, rsm17 ro.1, ro.2.2⟩ e
    have tb := h1.2.1
    have zv : Zn Z M0 M (v 1) := (h5.2.2 1 (by decide)).1
    have ne : ∀ x, x ≠ v 1 → mI M28 x = mI M x := fun x hx => f.2.2.2.2.2.2 x hx
    have v1b := (tb.1 1 (by decide)).2.2.2.2.1
    have F := f.fc (Z := Zn (fun x => Z x ∨ x = t) M0 M) (fun x u => by rw [u]; exact zv.elim (fun u => Or.inl (Or.inl u)) Or.inr)
    have tv : t ≠ v 1 := fun e => zn_no nz tz (by rw [e]; exact zv)
    have z' : mZ M28 = mZ M := f.2.2.2.2.1
    refine ⟨⟨⟨by decide, by decide⟩, Or.inl ⟨rfl, fun r hr j hj => ff r hr j (by rw [xtm_len] at hj; exact hj)⟩⟩, v, L, R, k, N, ?_, h3, h4.trans F, ?_, h6.trans f.rq, ⟨fun j hj => ?_, by rw [ne t tv]; exact h8, ?_, ?_, by rw [ne _ (by omega)]; exact h11⟩, ?_, fun i a b => by rw [f.2.2.1]; exact h14 i a b⟩
    · obtain ⟨t1, t2, t3, t4, t5⟩ := h2
      exact ⟨by rw [f.1]; exact t1, by rw [f.2.2.1]; exact t2, by rw [f.2.2.1]; exact t3, by rw [f.2.2.1]; exact t4, by rw [z']; exact t5⟩
    · have c := f.cnu h5
      refine c.cg (fun x u => ?_)
      rcases u with u | u
      · unfold Zn at u ⊢; rw [z']; exact u
      · omega
    · rw [ne _ (fun e => by
        have := h1.1.2.2.2 j hj
        have kv := (tb.1 1 (by decide)).1.1
        have gk := h1.1.1.2.2.1
        by_cases c : j = 0
        · subst c
          rw [Nat.add_zero] at e
          rw [← e, gk.1] at kv
          omega
        · have := gk.2.2.1 j (by omega) hj
          rw [e, kv] at this
          omega)]
      exact h7 j hj
    · rw [← v00, ne _ (tb.2 0 1 (by decide) (by decide) (by decide)).2.1, v00]; exact h9
    · rw [← v03, ne _ (tb.2 3 1 (by decide) (by decide) (by decide)).2.1, v03]; exact h10
    · rw [ne _ (tb.2 2 1 (by decide) (by decide) (by decide)).2.1]; exact h12
  induction u with
  | zero =>
    intro m v L R k M hu hm h f1 ck ro hv9 ff
    have o := h.1.cnt.2.2.2
    refine k_CA_within_57 o (i32s (by omega) (by omega)) (i32s (by omega) (by omega)) ⟨fun _ => ?_, fun w => absurd (by omega) w⟩
    rw [h.2.1.2.2.1.2.1]
    exact ⟨h.2.1.1, (h.1.2.1.1 1 (by decide)).1.1, fun M28 e => fin h ck ro (fun r hr => ff r (by omega)) e⟩
  | succ u ih =>
    intro m v L R k M hu hm h f1 ck ro hv9 ff
    have o := h.1.cnt.2.2.2
    have r12 := h.2.1.2.2.1.2.1
    refine k_CA_within_57 o (i32s (by omega) (by omega)) (i32s (by omega) (by omega)) ⟨fun w => ?_, fun w => ⟨h.2.1.1, fun M31 e31 M33 e33 => ?_⟩⟩
    · rw [r12]
      exact ⟨h.2.1.1, (h.1.2.1.1 1 (by decide)).1.1, fun M28 e => fin h ck ro (fun r hr => ff r (by omega)) e⟩
    obtain ⟨h', f2, eI, nvs, eR⟩ := h.sw nz tz f1 e31 e33
    have r' := h'.2.1
    have s0 := h'.1.1.1.2.1
    rw [r'.2.1.2, r'.2.1.1, r'.2.2.1.2.1, r12, s0.2.1.1]
    have fl := (h.1.2.1.1 1 (by decide)).1.2.2.2.2.2
    have ro' : Rok M33 (R 1) cn := ro.cg eR (fun i hi => ⟨nvs _ (fl i (by omega)).2.1, nvs _ (fl i (by omega)).2.2, by rw [eI]⟩)
    have ex : xtm M33 (t + 62) cn = xtm M0 (t + 62) cn := xtm_same (fun i hi => h'.2.2.2.2.2.2.1.1 i hi)
    have hv33 : ∀ j, j < cn → rwv M33 (R 1) j = wi9 (xtm M33 (t + 62) cn) m j := fun j hj => by
      rw [ex, ← hv9 j hj]
      exact rwv_cg eR (nvs _ (fl j (by omega)).2.1) (nvs _ (fl j (by omega)).2.2)
    have hn33 := wi_nx (m := m) h'.1.1.1.2.2.2.2 hv33
    rw [ex] at hn33
    refine ⟨s0.1.1, h'.1.1.2.1.2.1.1.1, (n_move (d := d) (R := fun i => R (sg i)) hn33 h'.1 h'.2.2.2.2.1 f2 ck ro' hWr hWs).mono (fun x M37 q => ?_)⟩
    have x01 := q.1
    obtain ⟨L', Rn, kn, I', f1', hx, hx0⟩ := h'.mv nz tz f2 q
    refine ⟨m_b32 x01, I'.1.cnt.2.2.2, fun c => ⟨⟨⟨by decide, by decide⟩, Or.inr ⟨rfl, m + 1, by omega, ?_⟩⟩, _, L', Rn, kn, I'⟩, fun c => ?_⟩
    · obtain ⟨j, hj, nf⟩ := hx0 c
      exact ⟨j, by rw [xtm_len]; exact hj, nf⟩
    obtain ⟨ck', ro'', vv⟩ := hx c
    rw [show ((m : Int) + 1) = ((m + 1 : Nat) : Int) by omega]
    exact ih (m + 1) _ L' Rn kn M37 (by omega) (by omega) I' f1' ck' ro'' (fun j hj => (vv j hj).1) (fun r hr j hj => by
      by_cases z : r = m + 1
      · rw [z]; exact (vv j hj).2
      · exact ff r (by omega) j hj)
/-- within, where it does not throw -/
theorem n_CA_within {l : Int} (hl : 0 ≤ l ∧ l ≤ 32) (h : Nms L W (t + 85) (t + 62) b cn cc bc v R k M) (hc : Cnu Z L (t + 85) v R k M) (hr : Tr t v M) (nz : ¬ Z t) (c1 : 1 ≤ cn) (f2 : mI M (v 2) 1 = 0) (hWr : ∀ x, b ≤ x → 17 ≤ W x ∧ W x ≤ 20000) (hWs : ∀ x, t + 85 ≤ x → x ≤ t + 85 + 133 → 300 ≤ W x) : Ci G y_CA_within (d + 9) [vr t, vi l] M (wnQ Z L W t b cn cc bc v k l.toNat M) := by
  obtain ⟨e0, kg, ks, o⟩ := h.cnt
  have tz := hr.2.2.2.2
  obtain ⟨n, en⟩ : ∃ n : Nat, l = ((n : Nat) : Int) := ⟨l.toNat, by omega⟩
  subst en
  have t1 := h.2.1.1 1 (by decide)
  have tb := h.2.1
  refine k_CA_within o (i32s (by omega) (by omega)) ⟨fun u => by rcases u with u | u <;> omega, fun _ => ?_⟩
  rw [hr.2.1.1, hr.2.2.1.2.1, e0]
  refine ⟨hr.1, kg, fun u => absurd u (by omega), fun _ => ⟨t1.1.1, fun M14 e14 => ?_⟩⟩
  have sv := h.1.sva h.2.2.1.1 t1
  have f14 : FI (fun x => x = v 1) M M14 := by rw [e14]; exact FI.ui rfl
  have o14 : mOk M14 := by rw [e14]; exact mOk_UI o ⟨by decide, by decide⟩
  have fl : mI M14 (v 1) 1 = 0 := by rw [e14, mI_UI, if_pos ⟨rfl, rfl⟩]
  have ne : ∀ x, x ≠ v 1 → mI M14 x = mI M x := fun x hx => f14.2.2.2.2.2.2 x hx
  have N14 : Nms L W (t + 85) (t + 62) b cn cc bc v R k M14 := h.fi f14 o14 (fun x u => by rw [u]; exact ⟨t1.1.2.2.2.2.1.1, by rw [t1.1.1]; decide⟩) (sv.fi (f14.mono (fun x u => Or.inl u)) o14).1.sb (fun j hj j2 => by
    by_cases c : j = 1
    · subst c; exact Or.inr fl
    · exact Or.inl (by rw [ne _ (tb.2 j 1 hj (by decide) c).2.1]))
  have zv : Z (v 1) := (hc.2.2 1 (by decide)).1
  have tv : t ≠ v 1 := fun e => nz (by rw [e]; exact zv)
  have v1b := t1.2.2.2.2.1
  have I14 : wnI Z L W t b cn cc bc v k M v L R k M14 := by
    refine ⟨N14, ?_, Or.inl rfl, f14.fc (fun x u => by rw [u]; exact Or.inl zv), f14.cnu hc, f14.rq, ⟨fun j hj => f14.2.2.2.2.2.2 _ (fun e => sv.gst hj (Or.inl e)), ne t tv, ne _ (tb.2 0 1 (by decide) (by decide) (by decide)).2.1, ne _ (tb.2 3 1 (by decide) (by decide) (by decide)).2.1, ne _ (by omega)⟩, by rw [ne _ (tb.2 2 1 (by decide) (by decide) (by decide)).2.1]; exact f2, fun i _ _ => by rw [f14.2.2.1]⟩
    obtain ⟨t1, t2, t3, t4, t5⟩ := hr
    exact ⟨by rw [f14.1]; exact t1, by rw [f14.2.2.1]; exact t2, by rw [f14.2.2.1]; exact t3, by rw [f14.2.2.1]; exact t4, by rw [f14.2.2.2.2.1]; exact t5⟩
  have r' := I14.2.1
  rw [r'.2.2.1.2.1, r'.2.1.1]
  have hn0 : ∀ j, j < cn → wi9 (xtm M (t + 62) cn) 0 j = if mI M14 (t + 62 + 2) j = 3 then 1 else 0 := fun j hj => by
    have gt : (xtm M (t + 62) cn)[j]? = some (stm M (t + 62) j) := by rw [xtm_map, rget, if_pos hj]
    show (((xtm M (t + 62) cn)[j]?).map (fun y => if y.1 = 3 then (1 : Rat) else 0)).getD 0 = _
    rw [gt, I14.2.2.2.2.2.2.1.1 2 (by decide)]
    rfl
  refine ⟨(N14.2.1.1 1 (by decide)).1.1, (n_begin (d := d + 4) hn0 N14 I14.2.2.2.2.1 fl hWr).mono (fun M17 q => ?_)⟩
  obtain ⟨L', Rn, kn, I', f1', hx, -⟩ := I14.mv nz tz fl q
  obtain ⟨ck', ro', vv⟩ := hx (by decide)
  rw [Int.toNat_natCast]
  exact ⟨I'.1.cnt.2.2.2, s_wi57 (d := d) (by omega) nz tz hWr hWs n 0 v L' Rn kn M17 (by omega) (by omega) I' f1' ck' ro' (fun j hj => (vv j hj).1) (fun r hr j hj => by
    have r0 : r = 0 := by omega
    rw [r0]
    exact (vv j hj).2)⟩
end NCS
end
section
/-! The class's top: choices are told. -/
section NCT
variable {G : mG} {d t g s c cn cc bc k j n : Nat} {M M' M0 : mM} {v : Nat → Nat}
theorem GTT.told (h : GTT M g cn cc bc) (e : ∀ i, i ≤ 9 → i ≠ 3 → mI M' (g + i) = mI M (g + i)) : GTT M' g cn cc bc := by
  obtain ⟨h1, h2, h3, h4⟩ := h
  have e0 := e 0 (by decide) (by decide)
  rw [Nat.add_zero] at e0
  have e4 := e 4 (by decide) (by decide)
  have e7 := e 7 (by decide) (by decide)
  exact ⟨h1, fun c hc => (h2 c hc).cg ⟨by rw [e7], by rw [e7]⟩ (by rw [e 6 (by decide) (by decide)]) (by rw [e 5 (by decide) (by decide)]) (fun i _ => ⟨by rw [e 8 (by decide) (by decide)], by rw [e 9 (by decide) (by decide)]⟩) (Nat.le_refl _) (Nat.le_refl _), fun j hj => by rw [e4]; exact h3 j hj, by rw [e0]; exact h4⟩
theorem GQ.told (hq : GQ M g cn k cc bc) (e : ∀ i, (i ≤ 9 ∧ i ≠ 3) ∨ i = 20 → mI M' (g + i) = mI M (g + i)) : GQ M' g cn k cc bc := by
  have e0 := e 0 (by omega)
  rw [Nat.add_zero] at e0
  obtain ⟨⟨q1, q2, q3⟩, q4, q5, q6⟩ := hq
  have e4 := e 4 (by omega)
  have e7 := e 7 (by omega)
  refine ⟨⟨by rw [e0]; exact q1, q2, fun i hi => by rw [e 20 (by omega)]; exact q3 i hi⟩, by rw [e0]; exact q4, by rw [e0]; exact q5, ?_⟩
  obtain ⟨t1, t2, t3, t4, t5, t6, t7, t8⟩ := q6
  exact ⟨t1, t2, fun c hc => (t3 c hc).cg ⟨by rw [e7], by rw [e7]⟩ (by rw [e 6 (by omega)]) (by rw [e 5 (by omega)]) (fun i _ => ⟨by rw [e 8 (by omega)], by rw [e 9 (by omega)]⟩) (Nat.le_refl _) (Nat.le_refl _), by rw [e7]; exact t4, t5, by rw [e4]; exact t6, by rw [e4]; exact t7, by rw [e4]; exact t8⟩
theorem GR.told (h : GR M g cn cc bc) (f : FI (fun x => x = g + 3) M M') : GR M' g cn cc bc := by
  have e : ∀ x, x ≠ g + 3 → mI M' x = mI M x := fun x hx => f.2.2.2.2.2.2 x hx
  rcases h with ⟨a, b⟩ | ⟨a, b⟩
  · exact Or.inl ⟨a, by rw [e g (by omega)]; exact b⟩
  · exact Or.inr ⟨a, b.told (fun i hi => e _ (by omega))⟩
/-- the command i of state k -/
def cmdP (M : mM) (g cn : Nat) (l1 l2 : Int) : Prop := (0 ≤ l1 ∧ l1 < cn) ∧ 0 ≤ l2 ∧ l2 < mI M (g + 4) (l1 + 1).toNat - mI M (g + 4) l1.toNat
theorem s_Ga_commandAt2 {l1 l2 : Int} (i1 : i32 l1) (i2 : i32 l2) (h1 : mOk M) (hk : GK M g) (hr : GR M g cn cc bc) : Ci G y_Ga_commandAt (d + 1) [vr g, vi l1, vi l2] M (fun r M' => M' = M ∧ i32 r ∧ (cmdP M g cn l1 l2 → 0 ≤ r) ∧ (¬ cmdP M g cn l1 l2 → r = -1)) := by
  obtain ⟨g0, ⟨-, -, -, g4, -⟩, ⟨-, -, -, k4, -⟩, ⟨-, -, -, n4, -⟩⟩ := id hk
  have hc := hr.cnt
  refine k_Ga_commandAt h1 i1 i2 ⟨g0, (s_Ga_hasState i1 h1 g0 hc.1).mono (fun x3 M2 q => ?_)⟩
  obtain ⟨e2, hx, hiff⟩ := q
  subst e2
  have rows : x3 ≠ 0 → ∃ a b : Nat, mI M2 (g + 4) l1.toNat = ((a : Nat) : Int) ∧ mI M2 (g + 4) (l1 + 1).toNat = ((b : Nat) : Int) ∧ a ≤ b ∧ b ≤ cc ∧ cc ≤ 4096 ∧ 0 ≤ l1 ∧ l1 < 512 ∧ 1 ≤ cn := fun y => by
    have b := hiff.mp y
    rcases hr with ⟨e1, -⟩ | ⟨c1, q⟩
    · omega
    · obtain ⟨⟨-, q2, -⟩, -, -, t1, t2, -, -, -, t6, -⟩ := q
      obtain ⟨x, y', f1, f2, f3, f4⟩ := t6 l1.toNat (by omega)
      exact ⟨x, y', f1, by rw [show (l1 + 1).toNat = l1.toNat + 1 by omega]; exact f2, f3, f4, by omega, b.1, by omega, c1⟩
  have bad : ((x3 = 0) ∨ (l2 < 0) ∨ ¬ (l2 < mI M2 (g + 4) (l1 + 1).toNat - mI M2 (g + 4) l1.toNat)) → ¬ cmdP M2 g cn l1 l2 := fun u p => by
    rcases u with u | u | u
    · exact (hiff.mpr p.1) u
    · exact absurd p.2.1 (by omega)
    · exact u p.2.2
  clear hr
  rw [g4, n4]
  refine ⟨m_b32 hx, h1, fun y _ => ?_, fun u => ⟨rfl, ⟨by decide, by decide⟩, fun p => absurd p (bad u), fun _ => rfl⟩, fun y => ?_⟩
  · obtain ⟨a, b, f1, f2, f3, f4, f5, f6, f7, f8⟩ := rows y
    rw [f1, f2]
    exact ⟨g0, k4, by omega, by omega, ⟨by omega, by omega⟩⟩
  · have y0 : x3 ≠ 0 := fun t => y (Or.inl t)
    have b0 := hiff.mp y0
    obtain ⟨a, b, f1, f2, f3, f4, f5, f6, f7, f8⟩ := rows y0
    have y1 : 0 ≤ l2 := by
      by_cases t : l2 < 0
      · exact absurd (Or.inr (Or.inl t)) y
      · omega
    have y2 : l2 < mI M2 (g + 4) (Int.toNat (l1 + 1)) - mI M2 (g + 4) (Int.toNat l1) := Classical.byContradiction (fun t => y (Or.inr (Or.inr t)))
    have yy : cmdP M2 g cn l1 l2 := ⟨b0, y1, y2⟩
    rw [f1, f2] at y2
    rw [f1]
    exact ⟨g0, k4, by omega, rfl, ⟨by omega, by omega⟩, fun _ => by omega, fun n => absurd yy n⟩
/-- what is told stays in bounds -/
theorem GS1.told {x : Int} {l : Nat} (h : GS M g n) (e : M' = mUI M (g + 3) l x) (hx : ∀ a b : Nat, mI M (g + 4) l = ((a : Nat) : Int) → mI M (g + 4) (l + 1) = ((b : Nat) : Int) → 0 ≤ x ∧ (x < ((b : Nat) : Int) - ((a : Nat) : Int) ∨ x = 0)) : GS M' g n := fun j hj => by
  have ne : ∀ y, y ≠ g + 3 → mI M' y = mI M y := fun y hy => by
    funext i
    rw [mI_ui y i e, if_neg (fun u => hy u.1)]
  by_cases c : j = l
  · subst c
    intro a b f1 f2
    rw [ne (g + 4) (by omega)] at f1 f2
    rw [ne (g + 2) (by omega), mI_ui (g + 3) j e, if_pos ⟨rfl, rfl⟩]
    exact ⟨hx a b f1 f2, (h j hj a b f1 f2).2⟩
  · exact (h j hj).cg (by rw [ne _ (by omega)]) (by rw [mI_ui (g + 3) j e, if_neg (fun u => c u.2)]) (by rw [ne _ (by omega)]) (by rw [ne _ (by omega)])
theorem g_CA_choose {l1 l2 : Int} (i1 : i32 l1) (i2 : i32 l2) (h : Tg M t g cn cc bc) (gs : 1 ≤ cn → GS M g (cn - 1)) (hp : cmdP M g cn l1 l2) : Cv G y_CA_choose (d + 2) [vr t, vi l1, vi l2] M (fun M' => mOk M' ∧ FI (fun x => x = g + 3) M M' ∧ GS M' g (cn - 1)) := by
  obtain ⟨h1, ⟨h2, h3⟩, h4, h5⟩ := h
  have hc := h5.cnt
  obtain ⟨g0, ⟨-, -, g3, -⟩, ⟨-, -, k3, -⟩, ⟨-, -, n3, -⟩⟩ := id h4
  refine k_CA_choose h1 i1 i2 ?_
  rw [h3]
  refine ⟨h2, g0, (s_Ga_commandAt2 (d := d) i1 i2 h1 h4 h5).mono (fun x4 M3 q => ?_)⟩
  obtain ⟨e, ix, q1, q2⟩ := q
  subst e
  rw [h3, g3, n3]
  have x0 := q1 hp
  obtain ⟨p1, p2, p3⟩ := hp
  refine ⟨ix, h1, fun u => by omega, fun _ => ⟨h2, g0, k3, by omega, fun M16 e16 => ⟨by rw [e16]; exact mOk_UI h1 i2, by rw [e16]; exact FI.ui rfl, GS1.told (gs (by omega)) e16 (fun a b f1 f2 => ?_)⟩⟩⟩
  rw [show (l1 + 1).toNat = l1.toNat + 1 by omega, f1, f2] at p3
  exact ⟨p2, Or.inl p3⟩
/-- adopt, where it does not throw -/
theorem g_CA_adopt (h : Tg M t g cn cc bc) (gs : 1 ≤ cn → GS M g (cn - 1)) (hs : mR M t 10 = s) (hS : SoT M s g) (ht : mR M t 11 = v 0 ∧ mK M (v 0) = 13) (kn : mI M (v 0) 1 ≠ 0) (ch : Chs M s g cn) : Cv G y_CA_adopt (d + 1) [vr t] M (fun M' => mOk M' ∧ FI (fun x => x = g + 3) M M' ∧ (1 ≤ cn → GS M' g (cn - 1))) := by
  obtain ⟨h1, ⟨h2, h3⟩, h4, h5⟩ := h
  have hc := h5.cnt
  obtain ⟨g0, ⟨-, -, g3, -⟩, ⟨-, -, k3, -⟩, ⟨-, -, n3, -⟩⟩ := id h4
  obtain ⟨⟨s0, sg⟩, ⟨-, -, r2, -⟩, ⟨-, k2, -⟩, ⟨-, n2, -⟩⟩ := hS
  refine k_CA_adopt h1 ?_
  rw [ht.1]
  refine ⟨h2, ht.2, fun u => absurd u kn, fun _ => ?_⟩
  suffices H : ∀ (u m : Nat) (M1 : mM), cn ≤ m + u → m ≤ cn → mOk M1 → FI (fun x => x = g + 3) M M1 → (1 ≤ cn → GS M1 g (cn - 1)) → h_CA_adopt_20 G d t m M1 (fun M' => mOk M' ∧ FI (fun x => x = g + 3) M M' ∧ (1 ≤ cn → GS M' g (cn - 1))) from H cn 0 M (by omega) (by omega) h1 FI.refl gs
  intro u
  induction u with
  | zero =>
    intro m M1 hu hm o f gs1
    have c0 : mI M1 g 0 = ((cn : Nat) : Int) := by rw [f.2.2.2.2.2.2 g (show ¬ g = g + 3 by omega)]; exact hc.1
    refine k_CA_adopt_20 o (i32s (by omega) (by omega)) ?_
    rw [f.2.2.1, f.1, h3, c0]
    exact ⟨h2, g0, fun _ => ⟨o, f, gs1⟩, fun w => absurd (by omega) w⟩
  | succ u ih =>
    intro m M1 hu hm o f gs1
    have c0 : mI M1 g 0 = ((cn : Nat) : Int) := by rw [f.2.2.2.2.2.2 g (show ¬ g = g + 3 by omega)]; exact hc.1
    have e30 : mI M1 (s + 30) = mI M (s + 30) := f.2.2.2.2.2.2 _ (show ¬ s + 30 = g + 3 by omega)
    have e4 : mI M1 (g + 4) = mI M (g + 4) := f.2.2.2.2.2.2 _ (show ¬ g + 4 = g + 3 by omega)
    refine k_CA_adopt_20 o (i32s (by omega) (by omega)) ?_
    rw [f.2.2.1, f.1, f.2.1, h3, c0, hs, r2, n2, g3, n3, Int.toNat_natCast, e30]
    refine ⟨h2, g0, fun _ => ⟨o, f, gs1⟩, fun w => ⟨s0, k2, by omega, k3, by omega, fun M19 e19 => ?_⟩⟩
    rw [show ((m : Int) + 1) = ((m + 1 : Nat) : Int) by omega]
    have i2 : i32 (if mI M (s + 30) m < 0 then 0 else mI M (s + 30) m) := by
      split
      · exact ⟨by decide, by decide⟩
      · exact (h1 _ _).1
    refine ih (m + 1) M19 (by omega) (by omega) (by rw [e19]; exact mOk_UI o i2) (f.trans (by rw [e19]; exact FI.ui rfl)) (fun c1 => GS1.told (gs1 c1) e19 (fun a b f1 f2 => ?_))
    rw [e4] at f1 f2
    rcases ch m (by omega) a b f1 f2 with ⟨y1, y2⟩ | ⟨y1, y2, y3⟩
    · rw [y2, if_pos (by decide)]
      exact ⟨by decide, Or.inr rfl⟩
    · rw [if_neg (by omega)]
      exact ⟨y2, Or.inl y3⟩
/-- a player's choices are commands -/
theorem tld_of {l : Int} (hl : l = 1 ∨ l = 2) (gs : 1 ≤ cn → GS M g (cn - 1)) : Tld M g cn l := fun _ k hk e x y f1 f2 => by
  obtain ⟨⟨a1, a2⟩, a3⟩ := gs (by omega) k (by omega) x y f1 f2
  have := a3 (by rw [e]; exact hl)
  exact ⟨a1, by rcases a2 with u | u <;> omega⟩
end NCT
end
