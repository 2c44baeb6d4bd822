section
/-! The class's top: within. -/
section NCS
variable {G : mG} {d t b i j a Ra n cn cc bc z w : Nat} {v v0 R k k0 Rn kn : Nat → Nat} {M M0 M' M1 : mM} {L L0 L' L1 : List Nat} {W : Nat → Nat} {T C S Z : Nat → Prop} {r : Prop}
/-- within on its way: the tables 1 and 2 may have changed places -/
def wnI (Z : Nat → Prop) (L0 : List Nat) (W : Nat → Nat) (t b cn cc bc : Nat) (v0 k0 : Nat → Nat) (M0 : mM) (v : Nat → Nat) (L : List Nat) (R k : Nat → Nat) (M : mM) : Prop := Nms L W (t + 85) (t + 62) b cn cc bc v R k M ∧ Tr t v M ∧ (v = v0 ∨ v = fun i => v0 (sg i)) ∧ FC (fun x => Z x ∨ x = t) M0 M ∧ Cnu (Zn Z M0 M) L (t + 85) v R k M ∧ Rq L0 k0 M0 L k M ∧ ((∀ j, j ≤ 9 → mI M (t + 62 + j) = mI M0 (t + 62 + j)) ∧ mI M t = mI M0 t ∧ mI M (v0 0) = mI M0 (v0 0) ∧ mI M (v0 3) = mI M0 (v0 3) ∧ mI M (t + 85 + 30) = mI M0 (t + 85 + 30)) ∧ mI M (v 2) 1 = 0 ∧ ∀ i, i ≠ 12 → i ≠ 13 → mR M t i = mR M0 t i
/-- what one more move makes, told by the tables -/
theorem wi_nx {g : Nat} {Rb m : Nat} (hG : GTT M g cn cc bc) (hv : ∀ j, j < cn → rwv M Rb j = wi9 (xtm M g cn) m j) : nxH M g Rb cn (wi9 (xtm M g cn) (m + 1)) := fun j hj => by
  have gt : (xtm M g cn)[j]? = some (stm M g j) := by rw [xtm_map, rget, if_pos hj]
  have e1 : wi9 (xtm M g cn) (m + 1) j = stv9 (wi9 (xtm M g cn) m) (stm M g j) := by
    show (((xtm M g cn)[j]?).map (fun y => stv9 (wi9 (xtm M g cn) m) y)).getD 0 = _
    rw [gt]
    rfl
  refine ⟨fun u => ?_, fun x y u1 u2 u3 => ?_⟩
  · have l0 : (stm M g j).2.length = 0 := by
      show (cml M g (mI M (g + 4) j).toNat ((mI M (g + 4) (j + 1)).toNat - (mI M (g + 4) j).toNat)).length = 0
      rw [cml_map, List.length_map, List.length_range, u]
      omega
    have e2 : stv9 (wi9 (xtm M g cn) m) (stm M g j) = if mI M (g + 2) j = 3 then 1 else 0 := by
      unfold stv9
      rw [l0]
      rfl
    rw [e1, e2, hv j hj]
    cases m with
    | zero =>
      show _ = (((xtm M g cn)[j]?).map (fun y => if y.1 = 3 then (1 : Rat) else 0)).getD 0
      rw [gt]
      rfl
    | succ m =>
      show _ = (((xtm M g cn)[j]?).map (fun y => stv9 (wi9 (xtm M g cn) m) y)).getD 0
      rw [gt]
      show _ = stv9 (wi9 (xtm M g cn) m) (stm M g j)
      unfold stv9
      rw [l0]
      rfl
  · obtain ⟨x', y', g1, g2, g3, g4⟩ := hG.2.2.1 j hj
    have ll : (stm M g j).2 = cml M g x (y - x) := by
      unfold stm
      rw [u1, u2, Int.toNat_natCast, Int.toNat_natCast]
    have ln : (stm M g j).2.length = (y - 1 - x) + 1 := by
      rw [ll, cml_map, List.length_map, List.length_range]
      omega
    have e2 : stv9 (wi9 (xtm M g cn) m) (stm M g j) = bst9 (mI M (g + 2) j = 1) (fun i => wr9 (wi9 (xtm M g cn) m) (cq0 (stm M g j) i)) (y - 1 - x) := by
      unfold stv9
      rw [ln]
      rfl
    rw [e1, e2]
    refine bst_cg _ (fun i hi => ?_)
    have ec : cq0 (stm M g j) i = cmm M g (x + i) := cq0_of (by rw [ll, cml_map, rget, if_pos (by omega)])
    rw [ec]
    exact wr_cg (fun b hb => (hv _ (cmm_lt (hG.2.1 (x + i) (by omega)) b hb)).symm)
theorem cml_same {g x n : Nat} (e : ∀ i, i ≤ 9 → mI M' (g + i) = mI M (g + i)) : cml M' g x n = cml M g x n := by
  have f : (fun t => cmm M' g (x + t)) = (fun t => cmm M g (x + t)) := funext (fun t => cmm_same e)
  rw [cml_map, cml_map, f]
theorem xtm_same {g : Nat} (e : ∀ i, i ≤ 9 → mI M' (g + i) = mI M (g + i)) : xtm M' g cn = xtm M g cn := by
  have f : stm M' g = stm M g := by
    funext j
    unfold stm
    rw [e 2 (by decide), e 4 (by decide), cml_same e]
  rw [xtm_map, xtm_map, f]
theorem xtm_len {g : Nat} : (xtm M g cn).length = cn := by rw [xtm_map, List.length_map, List.length_range]
def wnQ (Z : Nat → Prop) (L0 : List Nat) (W : Nat → Nat) (t b cn cc bc : Nat) (v0 k0 : Nat → Nat) (n : Nat) (M0 : mM) (x : Int) (M : mM) : Prop := (i32 x ∧ anA9 (xtm M0 (t + 62) cn) n x) ∧ ∃ v L R k, wnI Z L0 W t b cn cc bc v0 k0 M0 v L R k M
theorem rsm17 (h : Rsm M Ra cn 16) : Rsm M Ra cn 17 := fun l hl => by
  obtain ⟨a1, a2, a3⟩ := h l hl
  have p : (2 : Int) ^ (30 * 16) ≤ 2 ^ (30 * 17) := by decide +kernel
  exact ⟨a1, Int.lt_of_lt_of_le a2 p, Int.lt_of_lt_of_le a3 p⟩
theorem vsw (hv : v = v0 ∨ v = fun i => v0 (sg i)) : (v 0 = v0 0 ∧ v 3 = v0 3) ∧ ((fun i => v (sg i)) = v0 ∨ (fun i => v (sg i)) = fun i => v0 (sg i)) := by
  rcases hv with e | e
  · subst e
    exact ⟨⟨rfl, rfl⟩, Or.inr rfl⟩
  · subst e
    refine ⟨⟨rfl, rfl⟩, Or.inl ?_⟩
    funext i
    show v0 (sg (sg i)) = v0 i
    congr 1
    unfold sg
    by_cases c1 : i = 1
    · rw [if_pos c1, if_neg (by decide), if_pos rfl, c1]
    · rw [if_neg c1]
      by_cases c2 : i = 2
      · rw [if_pos c2, if_pos rfl, c2]
      · rw [if_neg c2, if_neg c1, if_neg c2]
theorem zn_no {x : Nat} (nz : ¬ Z x) (hx : x < mZ M) : ¬ Zn Z M M' x := fun u => u.elim nz (fun u => by omega)
/-- a step of numbers in within -/
theorem wnI.mv {n9 : Nat → Rat} {x : Int} (h : wnI Z L0 W t b cn cc bc v0 k0 M0 v L R k M) (nz : ¬ Z t) (tz : t < mZ M0) (f1 : mI M (v 1) 1 = 0) (q : mvR (Zn Z M0 M) L W (t + 85) (t + 62) b cn cc bc v k n9 M x M') : ∃ L' Rn kn, wnI Z L0 W t b cn cc bc v0 k0 M0 v L' Rn kn M' ∧ mI M' (v 1) 1 = 0 ∧ (x ≠ 0 → cn ≤ kn 1 ∧ Rok M' (Rn 1) cn ∧ ∀ j, j < cn → rwv M' (Rn 1) j = n9 j ∧ ft9 (n9 j)) ∧ (x = 0 → ∃ j, j < cn ∧ ¬ ft9 (n9 j)) := by
  obtain ⟨h1, h2, h3, h4, h5, h6, ⟨h7, h8, h9, h10, h11⟩, h12, h14⟩ := h
  obtain ⟨-, L', Rn, kn, q1, q2, q3, q4, q5, q6, q7⟩ := q
  obtain ⟨⟨v00, v03⟩, -⟩ := vsw h3
  have nt : ¬ Zn Z M0 M t := zn_no nz tz
  obtain ⟨r1, r2⟩ := h2.fc q2.1 nt
  have rt : mR M' t = mR M t := ((q2.1.2 t h2.2.2.2.2).2.2 nt).2.1
  have f' : FC (Zn (fun x => Z x ∨ x = t) M0 M) M M' := q2.1.mono (fun x _ u => u.elim (fun u => Or.inl (Or.inl u)) Or.inr)
  refine ⟨L', Rn, kn, ⟨q1, r1, h3, h4.trans f', q2.2.cg (fun x u => (Zn.trans h4.1.1 q2.1.1.1).mp u), h6.trans q3, ⟨fun j hj => by rw [q4 j hj, h7 j hj], by rw [r2, h8], by rw [← v00, q5 0 (by decide), v00, h9], by rw [← v03, q5 3 (by decide), v03, h10], by rw [q6, h11]⟩, by rw [q5 2 (by decide)]; exact h12, fun i a b => by rw [rt]; exact h14 i a b⟩, by rw [q5 1 (by decide)]; exact f1, q7⟩
/-- the tables change places -/
theorem wnI.sw {M31 : mM} (h : wnI Z L0 W t b cn cc bc v0 k0 M0 v L R k M) (nz : ¬ Z t) (tz : t < mZ M0) (f1 : mI M (v 1) 1 = 0) (e1 : M31 = mUR M t 12 (mR M t 13)) (e2 : M' = mUR M31 t 13 (mR M t 12)) : wnI Z L0 W t b cn cc bc v0 k0 M0 (fun i => v (sg i)) L (fun i => R (sg i)) (fun i => k (sg i)) M' ∧ mI M' (v 2) 1 = 0 ∧ mI M' = mI M ∧ (∀ a, a ∈ L → nv M' a = nv M a) ∧ (mR M' (R 1) = mR M (R 1)) := by
  obtain ⟨h1, h2, h3, h4, h5, h6, ⟨h7, h8, h9, h10, h11⟩, h12, h14⟩ := h
  obtain ⟨-, hv⟩ := vsw h3
  have nt : ¬ Zn Z M0 M t := zn_no nz tz
  have eI : mI M' = mI M := by rw [e2, mI_UR, e1, mI_UR]
  have o' : mOk M' := by rw [e2]; refine mOk_UR ?_; rw [e1]; exact mOk_UR h1.cnt.2.2.2
  have z' : mZ M' = mZ M ∧ mS M' = mS M := by rw [e2, mZ_UR, mS_UR, e1, mZ_UR, mS_UR]; exact ⟨rfl, rfl⟩
  have rr : ∀ x i, mR M' x i = if x = t ∧ i = 13 then mR M t 12 else if x = t ∧ i = 12 then mR M t 13 else mR M x i := fun x i => by rw [e2, mR_UR, e1, mR_UR]
  have f : FC (fun x => x = t) M M' := by
    refine ⟨⟨by rw [z'.1]; exact Nat.le_refl _, by rw [z'.2]; exact Nat.le_refl _⟩, fun x _ => ⟨by rw [e2, mK_UR, e1, mK_UR], by rw [e2, mN_UR, e1, mN_UR], fun nx => ⟨by rw [e2, mL_UR, e1, mL_UR], ?_, by rw [eI]⟩⟩⟩
    funext i
    rw [rr, if_neg (fun u => nx u.1), if_neg (fun u => nx u.1)]
  have no : ∀ x, Zm L (t + 85) v R k M x → ¬ x = t := fun x u e => nt (by rw [← e]; exact zm_in h5 x u)
  obtain ⟨N, ks, cps⟩ := h1.off f o' no (fun i hi => by omega)
  have N' := N.sw (by rw [eI]; exact h12)
  obtain ⟨t1, ⟨t2, t3⟩, ⟨t4, t5, t6, t7⟩, ⟨t8, t9, t10⟩, t11⟩ := h2
  have rt : ∀ i, i ≠ 12 → i ≠ 13 → mR M' t i = mR M t i := fun i a b => by rw [rr, if_neg (fun u => b u.2), if_neg (fun u => a u.2)]
  have ecp := pn_cg (k := k) cps
  have sw1 := Pn.sw (L := L) (k := k) (M := M')
  have rq : Rq L k M L (fun i => k (sg i)) M' := by
    unfold Rq
    rw [sw1.1, sw1.2.1, ecp.1, ecp.2, z'.1, z'.2, sw1.2.2]
    exact ⟨Nat.le_refl _, Nat.le_refl _, Nat.le_refl _, fun _ u => u, fun x u => u.sm (f.sm u.1.2.2 (fun e => by have k1 := u.1.1; rw [e, t1] at k1; omega)) f.1.1⟩
  refine ⟨⟨N', ⟨by rw [(f.2 t t11).1]; exact t1, ⟨by rw [rt 9 (by decide) (by decide)]; exact t2, by rw [rt 10 (by decide) (by decide)]; exact t3⟩, ⟨by rw [rt 11 (by decide) (by decide)]; exact t4, ?_, ?_, by rw [rt 14 (by decide) (by decide)]; exact t7⟩, ⟨by rw [rt 15 (by decide) (by decide)]; exact t8, by rw [rt 16 (by decide) (by decide)]; exact t9, by rw [rt 17 (by decide) (by decide)]; exact t10⟩, by rw [z'.1]; exact t11⟩, hv, h4.trans (f.mono (fun x _ u => Or.inl (Or.inr u))), ?_, h6.trans rq, ⟨fun j hj => by rw [eI]; exact h7 j hj, by rw [eI]; exact h8, by rw [eI]; exact h9, by rw [eI]; exact h10, by rw [eI]; exact h11⟩, by rw [eI]; exact f1, fun i a b => by rw [rt i a b]; exact h14 i a b⟩, by rw [eI]; exact h12, eI, fun a ha => (h1.1.2.1.1.sm ks.2.2.1 ks.1).2 a ha |>.1, ?_⟩
  · rw [rr, if_neg (fun u => absurd u.2 (by decide)), if_pos ⟨rfl, rfl⟩]; exact t6
  · rw [rr, if_pos ⟨rfl, rfl⟩]; exact t5
  · have c := (ks.cnu f h5).sw
    have : Zn Z M0 M' = Zn Z M0 M := by funext x; unfold Zn; rw [z'.1]
    rw [this]
    exact c
  · exact (ks.2.2.2 1 (by decide)).2.1.2.2.1
theorem s_wi57 {l : Nat} (hl : l ≤ 32) (nz : ¬ Z t) (tz : t < mZ M0) (hWr : ∀ x, b ≤ x → 17 ≤ W x ∧ W x ≤ 20000) (hWs : ∀ x, t + 85 ≤ x → x ≤ t + 85 + 134 → 300 ≤ W x) : ∀ (u m : Nat) (v : Nat → Nat) (L : List Nat) (R k : Nat → Nat) (M : mM), l ≤ m + u → m ≤ l → wnI Z L0 W t b cn cc bc v0 k0 M0 v L R k M → mI M (v 1) 1 = 0 → cn ≤ k 1 → Rok M (R 1) cn → (∀ j, j < cn → rwv M (R 1) j = wi9 (xtm M0 (t + 62) cn) m j) → (∀ r, r ≤ m → ∀ j, j < cn → ft9 (wi9 (xtm M0 (t + 62) cn) r j)) → h_CA_within_57 G (d + 8) t l m M (wnQ Z L0 W t b cn cc bc v0 k0 l M0) := by
  intro u
  have fin : ∀ {v : Nat → Nat} {L : List Nat} {R k : Nat → Nat} {M M28 : mM}, wnI Z L0 W t b cn cc bc v0 k0 M0 v L R k M → cn ≤ k 1 → Rok M (R 1) cn → (∀ r, r ≤ l → ∀ j, j < cn → ft9 (wi9 (xtm M0 (t + 62) cn) r j)) → M28 = mUI M (v 1) 1 1 → wnQ Z L0 W t b cn cc bc v0 k0 l M0 0 M28 := fun {v L R k M M28} h ck ro ff e => by
    obtain ⟨h1, h2, h3, h4, h5, h6, ⟨h7, h8, h9, h10, h11⟩, h12, h14⟩ := h
    obtain ⟨⟨v00, v03⟩, -⟩ := vsw h3
    obtain ⟨N, f, o⟩ := h1.mark (i := 1) (by decide) ⟨ck, rsm17 ro.1, ro.2.2⟩ e
    have tb := h1.2.1
    have zv : Zn Z M0 M (v 1) := (h5.2.2.1 1 (by decide)).1
    have ne : ∀ x, x ≠ v 1 → mI M28 x = mI M x := fun x hx => f.2.2.2.2.2.2 x hx
    have v1b := (tb.1 1 (by decide)).2.2.2.2.1
    have F := f.fc (Z := Zn (fun x => Z x ∨ x = t) M0 M) (fun x u => by rw [u]; exact zv.elim (fun u => Or.inl (Or.inl u)) Or.inr)
    have tv : t ≠ v 1 := fun e => zn_no nz tz (by rw [e]; exact zv)
    have z' : mZ M28 = mZ M := f.2.2.2.2.1
    refine ⟨⟨⟨by decide, by decide⟩, Or.inl ⟨rfl, fun r hr j hj => ff r hr j (by rw [xtm_len] at hj; exact hj)⟩⟩, v, L, R, k, N, ?_, h3, h4.trans F, ?_, h6.trans f.rq, ⟨fun j hj => ?_, by rw [ne t tv]; exact h8, ?_, ?_, by rw [ne _ (by omega)]; exact h11⟩, ?_, fun i a b => by rw [f.2.2.1]; exact h14 i a b⟩
    · obtain ⟨t1, t2, t3, t4, t5⟩ := h2
      exact ⟨by rw [f.1]; exact t1, by rw [f.2.2.1]; exact t2, by rw [f.2.2.1]; exact t3, by rw [f.2.2.1]; exact t4, by rw [z']; exact t5⟩
    · have c := f.cnu h5
      refine c.cg (fun x u => ?_)
      rcases u with u | u
      · unfold Zn at u ⊢; rw [z']; exact u
      · omega
    · rw [ne _ (fun e => by
        have := h1.1.2.2.2 j hj
        have kv := (tb.1 1 (by decide)).1.1
        have gk := h1.1.1.2.2.1
        by_cases c : j = 0
        · subst c
          rw [Nat.add_zero] at e
          rw [← e, gk.1] at kv
          omega
        · have := gk.2.2.1 j (by omega) hj
          rw [e, kv] at this
          omega)]
      exact h7 j hj
    · rw [← v00, ne _ (tb.2 0 1 (by decide) (by decide) (by decide)).2.1, v00]; exact h9
    · rw [← v03, ne _ (tb.2 3 1 (by decide) (by decide) (by decide)).2.1, v03]; exact h10
    · rw [ne _ (tb.2 2 1 (by decide) (by decide) (by decide)).2.1]; exact h12
  induction u with
  | zero =>
    intro m v L R k M hu hm h f1 ck ro hv9 ff
    have o := h.1.cnt.2.2.2
    refine k_CA_within_57 o (i32s (by omega) (by omega)) (i32s (by omega) (by omega)) ⟨fun _ => ?_, fun w => absurd (by omega) w⟩
    rw [h.2.1.2.2.1.2.1]
    exact ⟨h.2.1.1, (h.1.2.1.1 1 (by decide)).1.1, fun M28 e => fin h ck ro (fun r hr => ff r (by omega)) e⟩
  | succ u ih =>
    intro m v L R k M hu hm h f1 ck ro hv9 ff
    have o := h.1.cnt.2.2.2
    have r12 := h.2.1.2.2.1.2.1
    refine k_CA_within_57 o (i32s (by omega) (by omega)) (i32s (by omega) (by omega)) ⟨fun w => ?_, fun w => ⟨h.2.1.1, fun M31 e31 M33 e33 => ?_⟩⟩
    · rw [r12]
      exact ⟨h.2.1.1, (h.1.2.1.1 1 (by decide)).1.1, fun M28 e => fin h ck ro (fun r hr => ff r (by omega)) e⟩
    obtain ⟨h', f2, eI, nvs, eR⟩ := h.sw nz tz f1 e31 e33
    have r' := h'.2.1
    have s0 := h'.1.1.1.2.1
    rw [r'.2.1.2, r'.2.1.1, r'.2.2.1.2.1, r12, s0.2.1.1]
    have fl := (h.1.2.1.1 1 (by decide)).1.2.2.2.2.2
    have ro' : Rok M33 (R 1) cn := ro.cg eR (fun i hi => ⟨nvs _ (fl i (by omega)).2.1, nvs _ (fl i (by omega)).2.2, by rw [eI]⟩)
    have ex : xtm M33 (t + 62) cn = xtm M0 (t + 62) cn := xtm_same (fun i hi => h'.2.2.2.2.2.2.1.1 i hi)
    have hv33 : ∀ j, j < cn → rwv M33 (R 1) j = wi9 (xtm M33 (t + 62) cn) m j := fun j hj => by
      rw [ex, ← hv9 j hj]
      exact rwv_cg eR (nvs _ (fl j (by omega)).2.1) (nvs _ (fl j (by omega)).2.2)
    have hn33 := wi_nx (m := m) h'.1.1.1.2.2.2.2 hv33
    rw [ex] at hn33
    refine ⟨s0.1.1, h'.1.1.2.1.2.1.1.1, (n_move (d := d) (R := fun i => R (sg i)) hn33 h'.1 h'.2.2.2.2.1 f2 ck ro' hWr hWs).mono (fun x M37 q => ?_)⟩
    have x01 := q.1
    obtain ⟨L', Rn, kn, I', f1', hx, hx0⟩ := h'.mv nz tz f2 q
    refine ⟨m_b32 x01, I'.1.cnt.2.2.2, fun c => ⟨⟨⟨by decide, by decide⟩, Or.inr ⟨rfl, m + 1, by omega, ?_⟩⟩, _, L', Rn, kn, I'⟩, fun c => ?_⟩
    · obtain ⟨j, hj, nf⟩ := hx0 c
      exact ⟨j, by rw [xtm_len]; exact hj, nf⟩
    obtain ⟨ck', ro'', vv⟩ := hx c
    rw [show ((m : Int) + 1) = ((m + 1 : Nat) : Int) by omega]
    exact ih (m + 1) _ L' Rn kn M37 (by omega) (by omega) I' f1' ck' ro'' (fun j hj => (vv j hj).1) (fun r hr j hj => by
      by_cases z : r = m + 1
      · rw [z]; exact (vv j hj).2
      · exact ff r (by omega) j hj)
/-- within, where it does not throw -/
theorem n_CA_within {l : Int} (hl : 0 ≤ l ∧ l ≤ 32) (h : Nms L W (t + 85) (t + 62) b cn cc bc v R k M) (hc : Cnu Z L (t + 85) v R k M) (hr : Tr t v M) (nz : ¬ Z t) (c1 : 1 ≤ cn) (f2 : mI M (v 2) 1 = 0) (hWr : ∀ x, b ≤ x → 17 ≤ W x ∧ W x ≤ 20000) (hWs : ∀ x, t + 85 ≤ x → x ≤ t + 85 + 134 → 300 ≤ W x) : Ci G y_CA_within (d + 9) [vr t, vi l] M (wnQ Z L W t b cn cc bc v k l.toNat M) := by
  obtain ⟨e0, kg, ks, o⟩ := h.cnt
  have tz := hr.2.2.2.2
  obtain ⟨n, en⟩ : ∃ n : Nat, l = ((n : Nat) : Int) := ⟨l.toNat, by omega⟩
  subst en
  have t1 := h.2.1.1 1 (by decide)
  have tb := h.2.1
  refine k_CA_within o (i32s (by omega) (by omega)) ⟨fun u => by rcases u with u | u <;> omega, fun _ => ?_⟩
  rw [hr.2.1.1, hr.2.2.1.2.1, e0]
  refine ⟨hr.1, kg, fun u => absurd u (by omega), fun _ => ⟨t1.1.1, fun M14 e14 => ?_⟩⟩
  have sv := h.1.sva h.2.2.1.1 t1
  have f14 : FI (fun x => x = v 1) M M14 := by rw [e14]; exact FI.ui rfl
  have o14 : mOk M14 := by rw [e14]; exact mOk_UI o ⟨by decide, by decide⟩
  have fl : mI M14 (v 1) 1 = 0 := by rw [e14, mI_UI, if_pos ⟨rfl, rfl⟩]
  have ne : ∀ x, x ≠ v 1 → mI M14 x = mI M x := fun x hx => f14.2.2.2.2.2.2 x hx
  have N14 : Nms L W (t + 85) (t + 62) b cn cc bc v R k M14 := h.fi f14 o14 (fun x u => by rw [u]; exact ⟨t1.1.2.2.2.2.1.1, by rw [t1.1.1]; decide⟩) (sv.fi (f14.mono (fun x u => Or.inl u)) o14).1.sb (fun j hj j2 => by
    by_cases c : j = 1
    · subst c; exact Or.inr fl
    · exact Or.inl (by rw [ne _ (tb.2 j 1 hj (by decide) c).2.1]))
  have zv : Z (v 1) := (hc.2.2.1 1 (by decide)).1
  have tv : t ≠ v 1 := fun e => nz (by rw [e]; exact zv)
  have v1b := t1.2.2.2.2.1
  have I14 : wnI Z L W t b cn cc bc v k M v L R k M14 := by
    refine ⟨N14, ?_, Or.inl rfl, f14.fc (fun x u => by rw [u]; exact Or.inl zv), f14.cnu hc, f14.rq, ⟨fun j hj => f14.2.2.2.2.2.2 _ (fun e => sv.gst hj (Or.inl e)), ne t tv, ne _ (tb.2 0 1 (by decide) (by decide) (by decide)).2.1, ne _ (tb.2 3 1 (by decide) (by decide) (by decide)).2.1, ne _ (by omega)⟩, by rw [ne _ (tb.2 2 1 (by decide) (by decide) (by decide)).2.1]; exact f2, fun i _ _ => by rw [f14.2.2.1]⟩
    obtain ⟨t1, t2, t3, t4, t5⟩ := hr
    exact ⟨by rw [f14.1]; exact t1, by rw [f14.2.2.1]; exact t2, by rw [f14.2.2.1]; exact t3, by rw [f14.2.2.1]; exact t4, by rw [f14.2.2.2.2.1]; exact t5⟩
  have r' := I14.2.1
  rw [r'.2.2.1.2.1, r'.2.1.1]
  have hn0 : ∀ j, j < cn → wi9 (xtm M (t + 62) cn) 0 j = if mI M14 (t + 62 + 2) j = 3 then 1 else 0 := fun j hj => by
    have gt : (xtm M (t + 62) cn)[j]? = some (stm M (t + 62) j) := by rw [xtm_map, rget, if_pos hj]
    show (((xtm M (t + 62) cn)[j]?).map (fun y => if y.1 = 3 then (1 : Rat) else 0)).getD 0 = _
    rw [gt, I14.2.2.2.2.2.2.1.1 2 (by decide)]
    rfl
  refine ⟨(N14.2.1.1 1 (by decide)).1.1, (n_begin (d := d + 4) hn0 N14 I14.2.2.2.2.1 fl hWr).mono (fun M17 q => ?_)⟩
  obtain ⟨L', Rn, kn, I', f1', hx, -⟩ := I14.mv nz tz fl q
  obtain ⟨ck', ro', vv⟩ := hx (by decide)
  rw [Int.toNat_natCast]
  exact ⟨I'.1.cnt.2.2.2, s_wi57 (d := d) (by omega) nz tz hWr hWs n 0 v L' Rn kn M17 (by omega) (by omega) I' f1' ck' ro' (fun j hj => (vv j hj).1) (fun r hr j hj => by
    have r0 : r = 0 := by omega
    rw [r0]
    exact (vv j hj).2)⟩
end NCS
end
section
/-! The class's top: choices are told. -/
section NCT
variable {G : mG} {d t g s c cn cc bc k j n : Nat} {M M' M0 : mM} {v : Nat → Nat}
theorem GTT.told (h : GTT M g cn cc bc) (e : ∀ i, i ≤ 9 → i ≠ 3 → mI M' (g + i) = mI M (g + i)) : GTT M' g cn cc bc := by
  obtain ⟨h1, h2, h3, h4⟩ := h
  have e0 := e 0 (by decide) (by decide)
  rw [Nat.add_zero] at e0
  have e4 := e 4 (by decide) (by decide)
  have e7 := e 7 (by decide) (by decide)
  exact ⟨h1, fun c hc => (h2 c hc).cg ⟨by rw [e7], by rw [e7]⟩ (by rw [e 6 (by decide) (by decide)]) (by rw [e 5 (by decide) (by decide)]) (fun i _ => ⟨by rw [e 8 (by decide) (by decide)], by rw [e 9 (by decide) (by decide)]⟩) (Nat.le_refl _) (Nat.le_refl _), fun j hj => by rw [e4]; exact h3 j hj, by rw [e0]; exact h4⟩
theorem GQ.told (hq : GQ M g cn k cc bc) (e : ∀ i, (i ≤ 9 ∧ i ≠ 3) ∨ i = 20 → mI M' (g + i) = mI M (g + i)) : GQ M' g cn k cc bc := by
  have e0 := e 0 (by omega)
  rw [Nat.add_zero] at e0
  obtain ⟨⟨q1, q2, q3⟩, q4, q5, q6⟩ := hq
  have e4 := e 4 (by omega)
  have e7 := e 7 (by omega)
  refine ⟨⟨by rw [e0]; exact q1, q2, fun i hi => by rw [e 20 (by omega)]; exact q3 i hi⟩, by rw [e0]; exact q4, by rw [e0]; exact q5, ?_⟩
  obtain ⟨t1, t2, t3, t4, t5, t6, t7, t8⟩ := q6
  exact ⟨t1, t2, fun c hc => (t3 c hc).cg ⟨by rw [e7], by rw [e7]⟩ (by rw [e 6 (by omega)]) (by rw [e 5 (by omega)]) (fun i _ => ⟨by rw [e 8 (by omega)], by rw [e 9 (by omega)]⟩) (Nat.le_refl _) (Nat.le_refl _), by rw [e7]; exact t4, t5, by rw [e4]; exact t6, by rw [e4]; exact t7, by rw [e4]; exact t8⟩
theorem GR.told (h : GR M g cn cc bc) (f : FI (fun x => x = g + 3) M M') : GR M' g cn cc bc := by
  have e : ∀ x, x ≠ g + 3 → mI M' x = mI M x := fun x hx => f.2.2.2.2.2.2 x hx
  rcases h with ⟨a, b⟩ | ⟨a, b⟩
  · exact Or.inl ⟨a, by rw [e g (by omega)]; exact b⟩
  · exact Or.inr ⟨a, b.told (fun i hi => e _ (by omega))⟩
/-- the command i of state k -/
def cmdP (M : mM) (g cn : Nat) (l1 l2 : Int) : Prop := (0 ≤ l1 ∧ l1 < cn) ∧ 0 ≤ l2 ∧ l2 < mI M (g + 4) (l1 + 1).toNat - mI M (g + 4) l1.toNat
theorem s_Ga_commandAt2 {l1 l2 : Int} (i1 : i32 l1) (i2 : i32 l2) (h1 : mOk M) (hk : GK M g) (hr : GR M g cn cc bc) : Ci G y_Ga_commandAt (d + 1) [vr g, vi l1, vi l2] M (fun r M' => M' = M ∧ i32 r ∧ (cmdP M g cn l1 l2 → 0 ≤ r) ∧ (¬ cmdP M g cn l1 l2 → r = -1)) := by
  obtain ⟨g0, ⟨-, -, -, g4, -⟩, ⟨-, -, -, k4, -⟩, ⟨-, -, -, n4, -⟩⟩ := id hk
  have hc := hr.cnt
  refine k_Ga_commandAt h1 i1 i2 ⟨g0, (s_Ga_hasState i1 h1 g0 hc.1).mono (fun x3 M2 q => ?_)⟩
  obtain ⟨e2, hx, hiff⟩ := q
  subst e2
  have rows : x3 ≠ 0 → ∃ a b : Nat, mI M2 (g + 4) l1.toNat = ((a : Nat) : Int) ∧ mI M2 (g + 4) (l1 + 1).toNat = ((b : Nat) : Int) ∧ a ≤ b ∧ b ≤ cc ∧ cc ≤ 4096 ∧ 0 ≤ l1 ∧ l1 < 512 ∧ 1 ≤ cn := fun y => by
    have b := hiff.mp y
    rcases hr with ⟨e1, -⟩ | ⟨c1, q⟩
    · omega
    · obtain ⟨⟨-, q2, -⟩, -, -, t1, t2, -, -, -, t6, -⟩ := q
      obtain ⟨x, y', f1, f2, f3, f4⟩ := t6 l1.toNat (by omega)
      exact ⟨x, y', f1, by rw [show (l1 + 1).toNat = l1.toNat + 1 by omega]; exact f2, f3, f4, by omega, b.1, by omega, c1⟩
  have bad : ((x3 = 0) ∨ (l2 < 0) ∨ ¬ (l2 < mI M2 (g + 4) (l1 + 1).toNat - mI M2 (g + 4) l1.toNat)) → ¬ cmdP M2 g cn l1 l2 := fun u p => by
    rcases u with u | u | u
    · exact (hiff.mpr p.1) u
    · exact absurd p.2.1 (by omega)
    · exact u p.2.2
  clear hr
  rw [g4, n4]
  refine ⟨m_b32 hx, h1, fun y _ => ?_, fun u => ⟨rfl, ⟨by decide, by decide⟩, fun p => absurd p (bad u), fun _ => rfl⟩, fun y => ?_⟩
  · obtain ⟨a, b, f1, f2, f3, f4, f5, f6, f7, f8⟩ := rows y
    rw [f1, f2]
    exact ⟨g0, k4, by omega, by omega, ⟨by omega, by omega⟩⟩
  · have y0 : x3 ≠ 0 := fun t => y (Or.inl t)
    have b0 := hiff.mp y0
    obtain ⟨a, b, f1, f2, f3, f4, f5, f6, f7, f8⟩ := rows y0
    have y1 : 0 ≤ l2 := by
      by_cases t : l2 < 0
      · exact absurd (Or.inr (Or.inl t)) y
      · omega
    have y2 : l2 < mI M2 (g + 4) (Int.toNat (l1 + 1)) - mI M2 (g + 4) (Int.toNat l1) := Classical.byContradiction (fun t => y (Or.inr (Or.inr t)))
    have yy : cmdP M2 g cn l1 l2 := ⟨b0, y1, y2⟩
    rw [f1, f2] at y2
    rw [f1]
    exact ⟨g0, k4, by omega, rfl, ⟨by omega, by omega⟩, fun _ => by omega, fun n => absurd yy n⟩
/-- what is told stays in bounds -/
theorem GS1.told {x : Int} {l : Nat} (h : GS M g n) (e : M' = mUI M (g + 3) l x) (hx : ∀ a b : Nat, mI M (g + 4) l = ((a : Nat) : Int) → mI M (g + 4) (l + 1) = ((b : Nat) : Int) → 0 ≤ x ∧ (x < ((b : Nat) : Int) - ((a : Nat) : Int) ∨ x = 0)) : GS M' g n := fun j hj => by
  have ne : ∀ y, y ≠ g + 3 → mI M' y = mI M y := fun y hy => by
    funext i
    rw [mI_ui y i e, if_neg (fun u => hy u.1)]
  by_cases c : j = l
  · subst c
    intro a b f1 f2
    rw [ne (g + 4) (by omega)] at f1 f2
    rw [ne (g + 2) (by omega), mI_ui (g + 3) j e, if_pos ⟨rfl, rfl⟩]
    exact ⟨hx a b f1 f2, (h j hj a b f1 f2).2⟩
  · exact (h j hj).cg (by rw [ne _ (by omega)]) (by rw [mI_ui (g + 3) j e, if_neg (fun u => c u.2)]) (by rw [ne _ (by omega)]) (by rw [ne _ (by omega)])
theorem g_CA_choose {l1 l2 : Int} (i1 : i32 l1) (i2 : i32 l2) (h : Tg M t g cn cc bc) (gs : 1 ≤ cn → GS M g (cn - 1)) (hp : cmdP M g cn l1 l2) : Cv G y_CA_choose (d + 2) [vr t, vi l1, vi l2] M (fun M' => mOk M' ∧ FI (fun x => x = g + 3) M M' ∧ GS M' g (cn - 1)) := by
  obtain ⟨h1, ⟨h2, h3⟩, h4, h5⟩ := h
  have hc := h5.cnt
  obtain ⟨g0, ⟨-, -, g3, -⟩, ⟨-, -, k3, -⟩, ⟨-, -, n3, -⟩⟩ := id h4
  refine k_CA_choose h1 i1 i2 ?_
  rw [h3]
  refine ⟨h2, g0, (s_Ga_commandAt2 (d := d) i1 i2 h1 h4 h5).mono (fun x4 M3 q => ?_)⟩
  obtain ⟨e, ix, q1, q2⟩ := q
  subst e
  rw [h3, g3, n3]
  have x0 := q1 hp
  obtain ⟨p1, p2, p3⟩ := hp
  refine ⟨ix, h1, fun u => by omega, fun _ => ⟨h2, g0, k3, by omega, fun M16 e16 => ⟨by rw [e16]; exact mOk_UI h1 i2, by rw [e16]; exact FI.ui rfl, GS1.told (gs (by omega)) e16 (fun a b f1 f2 => ?_)⟩⟩⟩
  rw [show (l1 + 1).toNat = l1.toNat + 1 by omega, f1, f2] at p3
  exact ⟨p2, Or.inl p3⟩
/-- adopt, where it does not throw -/
theorem g_CA_adopt (h : Tg M t g cn cc bc) (gs : 1 ≤ cn → GS M g (cn - 1)) (hs : mR M t 10 = s) (hS : SoT M s g) (ht : mR M t 11 = v 0 ∧ mK M (v 0) = 13) (kn : mI M (v 0) 1 ≠ 0) (ch : Chs M s g cn) : Cv G y_CA_adopt (d + 1) [vr t] M (fun M' => mOk M' ∧ FI (fun x => x = g + 3) M M' ∧ (1 ≤ cn → GS M' g (cn - 1))) := by
  obtain ⟨h1, ⟨h2, h3⟩, h4, h5⟩ := h
  have hc := h5.cnt
  obtain ⟨g0, ⟨-, -, g3, -⟩, ⟨-, -, k3, -⟩, ⟨-, -, n3, -⟩⟩ := id h4
  obtain ⟨⟨s0, sg⟩, ⟨-, -, r2, -⟩, ⟨-, k2, -⟩, ⟨-, n2, -⟩⟩ := hS
  refine k_CA_adopt h1 ?_
  rw [ht.1]
  refine ⟨h2, ht.2, fun u => absurd u kn, fun _ => ?_⟩
  suffices H : ∀ (u m : Nat) (M1 : mM), cn ≤ m + u → m ≤ cn → mOk M1 → FI (fun x => x = g + 3) M M1 → (1 ≤ cn → GS M1 g (cn - 1)) → h_CA_adopt_20 G d t m M1 (fun M' => mOk M' ∧ FI (fun x => x = g + 3) M M' ∧ (1 ≤ cn → GS M' g (cn - 1))) from H cn 0 M (by omega) (by omega) h1 FI.refl gs
  intro u
  induction u with
  | zero =>
    intro m M1 hu hm o f gs1
    have c0 : mI M1 g 0 = ((cn : Nat) : Int) := by rw [f.2.2.2.2.2.2 g (show ¬ g = g + 3 by omega)]; exact hc.1
    refine k_CA_adopt_20 o (i32s (by omega) (by omega)) ?_
    rw [f.2.2.1, f.1, h3, c0]
    exact ⟨h2, g0, fun _ => ⟨o, f, gs1⟩, fun w => absurd (by omega) w⟩
  | succ u ih =>
    intro m M1 hu hm o f gs1
    have c0 : mI M1 g 0 = ((cn : Nat) : Int) := by rw [f.2.2.2.2.2.2 g (show ¬ g = g + 3 by omega)]; exact hc.1
    have e30 : mI M1 (s + 30) = mI M (s + 30) := f.2.2.2.2.2.2 _ (show ¬ s + 30 = g + 3 by omega)
    have e4 : mI M1 (g + 4) = mI M (g + 4) := f.2.2.2.2.2.2 _ (show ¬ g + 4 = g + 3 by omega)
    refine k_CA_adopt_20 o (i32s (by omega) (by omega)) ?_
    rw [f.2.2.1, f.1, f.2.1, h3, c0, hs, r2, n2, g3, n3, Int.toNat_natCast, e30]
    refine ⟨h2, g0, fun _ => ⟨o, f, gs1⟩, fun w => ⟨s0, k2, by omega, k3, by omega, fun M19 e19 => ?_⟩⟩
    rw [show ((m : Int) + 1) = ((m + 1 : Nat) : Int) by omega]
    have i2 : i32 (if mI M (s + 30) m < 0 then 0 else mI M (s + 30) m) := by
      split
      · exact ⟨by decide, by decide⟩
      · exact (h1 _ _).1
    refine ih (m + 1) M19 (by omega) (by omega) (by rw [e19]; exact mOk_UI o i2) (f.trans (by rw [e19]; exact FI.ui rfl)) (fun c1 => GS1.told (gs1 c1) e19 (fun a b f1 f2 => ?_))
    rw [e4] at f1 f2
    rcases ch m (by omega) a b f1 f2 with ⟨y1, y2⟩ | ⟨y1, y2, y3⟩
    · rw [y2, if_pos (by decide)]
      exact ⟨by decide, Or.inr rfl⟩
    · rw [if_neg (by omega)]
      exact ⟨y2, Or.inl y3⟩
/-- a player's choices are commands -/
theorem tld_of {l : Int} (hl : l = 1 ∨ l = 2) (gs : 1 ≤ cn → GS M g (cn - 1)) : Tld M g cn l := fun _ k hk e x y f1 f2 => by
  obtain ⟨⟨a1, a2⟩, a3⟩ := gs (by omega) k (by omega) x y f1 f2
  have := a3 (by rw [e]; exact hl)
  exact ⟨a1, by rcases a2 with u | u <;> omega⟩
end NCT
end
section
/-! The class's top: its pieces, and what leaves them alone. -/
section NCU
variable {G : mG} {d t z q w x m n cn cc bc T Kt N A B D Cw p O P K p' O' P' K' Ab Be Cm U Ag Bg Cg V F L cnt : Nat} {M M' M1 : mM} {Z Y : Nat → Prop} {ns : Nat → Int} {sf ef : Nat → Nat} {v R k : Nat → Nat} {Ls : List Nat} {W : Nat → Nat} {c9 c8 : Nat → Int}
/-- the same memory with the old longs -/
def noL (M M' : mM) : mM := (mK M', mN M', mI M', (fun x j => if x < mZ M then mL M x j else mL M' x j), mR M', mZ M', mS M')
theorem FC.fa (h : FC Z M M') : FA Z Z M (noL M M') := by
  refine ⟨h.1, fun x hx => ⟨(h.2 x hx).1, (h.2 x hx).2.1, ?_, fun nz => ((h.2 x hx).2.2 nz).2.1, fun nz => ((h.2 x hx).2.2 nz).2.2⟩⟩
  funext j
  show (if x < mZ M then mL M x j else mL M' x j) = _
  rw [if_pos hx]
theorem PK.fc (h : PK M z p O P K) (f : FC Z M M') (np : ¬ Z p) : PK M' z p O P K := by
  have q : PK (noL M M') z p O P K := h.fa f.fa np
  exact q
theorem PW.fc (h : PW M z p O P K V F ns sf ef L cnt) (f : FC Z M M') (hs : ∀ i, i ≤ 15 → ¬ Z (p + i)) (hO : ¬ Z O) (hP : ¬ Z P) : PW M' z p O P K V F ns sf ef L cnt := by
  have q : PW (noL M M') z p O P K V F ns sf ef L cnt := h.fa f.fa (hs 0 (by decide)) hs hO hP
  exact q
theorem Tap.fc (h : Tap c9 M t T Kt N) (f : FC Z M M') (nT : ¬ Z T) (r0 : mR M' t 0 = mR M t 0) (i1 : mI M' t 1 = mI M t 1) : Tap c9 M' t T Kt N := by
  obtain ⟨⟨h1, h2, h3⟩, ⟨h4, h5⟩, ⟨h6, h7, h8⟩, h9, h10⟩ := h
  have e := f.sm h8 nT
  have := f.1.1
  exact ⟨⟨by rw [(f.2 t h7).1]; exact h1, by rw [r0]; exact h2, by rw [i1]; exact h3⟩, ⟨by rw [e.1]; exact h4, by rw [e.2.1]; exact h5⟩, ⟨h6, by omega, by omega⟩, h9, fun j hj => by rw [e.2.2.2]; exact h10 j hj⟩
theorem WB.fc (h : WB M w A B D Cw) (f : FC Z M M') (nw : ¬ Z w) : WB M' w A B D Cw := by
  obtain ⟨h1, h2, ⟨h3, h4, h5⟩, ⟨h6, h7, h8⟩, h9, ⟨z1, z2, z3, z4⟩, h10⟩ := h
  have := f.1.1
  have e := f.sm z1 nw
  exact ⟨by rw [e.1]; exact h1, by rw [e.2.2.1]; exact h2, ⟨by rw [(f.2 A z2).1]; exact h3, by rw [(f.2 B z3).1]; exact h4, by rw [(f.2 D z4).1]; exact h5⟩, ⟨by rw [(f.2 A z2).2.1]; exact h6, by rw [(f.2 B z3).2.1]; exact h7, by rw [(f.2 D z4).2.1]; exact h8⟩, h9, ⟨by omega, by omega, by omega, by omega⟩, h10⟩
theorem MK.fc (h : MK M z m U Ab Be Cm) (f : FC Z M M') (nm : ¬ Z m) : MK M' z m U Ab Be Cm := by
  have mz : m < mZ M := by
    have a := h.2.2.2.2.2.1.2.2.2
    have b := h.2.2.2.2.2.2.1.1
    omega
  have e := f.sm mz nm
  exact h.eq2 (fun x hx => ⟨(f.2 x hx).1, (f.2 x hx).2.1⟩) (fun i _ => by rw [e.2.2.1]) (by rw [e.2.2.2]) f.1.1
theorem TZ.fc (h : TZ M z q p O P K Ab Be Cm) (o : mOk M') (f : FC Z M M') (hq : ∀ x, q ≤ x → x ≤ q + 22 → ¬ Z x) (np : ¬ Z p) : TZ M' z q p O P K Ab Be Cm := by
  obtain ⟨-, h2, h3, h4, h5, h6, h7, h8, h9⟩ := h
  have zz := h6.2.2.2.2.1.1
  have sm : ∀ i, i ≤ 22 → Sm M M' (q + i) := fun i hi => f.sm (by omega) (hq _ (by omega) (by omega))
  have s0 := sm 0 (by decide)
  rw [Nat.add_zero] at s0
  refine ⟨o, h2.eq2 (fun i hi => ?_) (fun i _ => by rw [(sm 1 (by decide)).2.2.1]), by rw [s0.1, s0.2.2.1]; exact h3, by rw [(sm 21 (by decide)).1, (sm 22 (by decide)).1, (sm 21 (by decide)).2.1, (sm 22 (by decide)).2.1]; exact h4, h5.fc f (hq _ (by omega) (by omega)), h6.fc f np, h7, h8, fun j => by rw [(sm 6 (by decide)).2.2.2]; exact h9 j⟩
  have := sm (1 + i) (by omega)
  rw [← Nat.add_assoc] at this
  exact ⟨this.1, this.2.1⟩
/-- the program tells a game, whose exploration comes to X9 -/
def Pgm (X9 : xR9) (M : mM) (p O P : Nat) : Prop := ∃ (γ : gW9) (c4 : Nat × Nat × Nat × Nat) (n : Nat), NqO γ.1 γ.2.2.1 n ∧ CGm M p O P γ.1 γ.2.1 γ.2.2.1 γ.2.2.2.1 γ.2.2.2.2.1 n (γ.2.2.2.2.2.1, c4, ((0 : Int), (0 : Int))) γ.2.2.2.2.2.2 ∧ (mI M p 3 = ((vcn γ.2.2.2.2.2.1 : Nat) : Int) ∧ rcn γ.2.2.2.2.2.1 ≤ 60 ∧ mI M p 12 = ((c4.2.2.1 : Nat) : Int) ∧ c4.2.2.2 ≠ 0) ∧ X9 = XpG γ
theorem CGm.cgm {O P n Nn : Nat} {W pl nq : Nat → Int} {sm : Nat → Nat → Prop} {s : st9} {g : gm9} (h : CGm M p O P W pl nq sm Nn n s g) (ep : mI M' p = mI M p) (ei : ∀ i, 3 ≤ i → i ≤ 15 → mI M' (p + i) = mI M (p + i)) (eO : mI M' O = mI M O) (eP : mI M' P = mI M P) : CGm M' p O P W pl nq sm Nn n s g := by
  obtain ⟨L, ns, sf, ef, h1, h2, h3, h4, ⟨v1, v2, v3⟩, ⟨t1, t2⟩, h7, h8⟩ := h
  have cd : cdE O P L M M' := fun i _ => ⟨by rw [eO], by rw [eP]⟩
  have nn : ∀ x, x < rcn s.1 → ns x = ns x ∧ ef x = ef x := fun _ _ => ⟨rfl, rfl⟩
  refine ⟨L, ns, sf, ef, by rw [ep]; exact h1, h2, h3.cg (ei 6 (by decide) (by decide)) (ei 7 (by decide) (by decide)) (ei 8 (by decide) (by decide)) eO eP, h4, ⟨v1, fun v x hx => ?_, v3⟩, ⟨t1, fun tg htg => ?_⟩, h7, fun c cm hc => ?_⟩
  · rw [ei 3 (by decide) (by decide), ei 4 (by decide) (by decide), ei 5 (by decide) (by decide)]
    exact v2 v x hx
  · obtain ⟨sT, q1, q2⟩ := t2 tg htg
    have := q2.step (l9 := []) (ns' := ns) (ef' := ef) cd (Nat.le_refl L) nn
    rw [List.append_nil] at this
    exact ⟨sT, by rw [ep]; exact q1, this⟩
  · have := (h8 c cm hc).step (l9 := []) (ns' := ns) (ef' := ef) (fun i i1 i2 => ei i (by omega) i2) cd (Nat.le_refl L) (Nat.le_refl _) nn
    rw [List.append_nil] at this
    exact this
theorem Pgm.fc {X9 : xR9} (h : Pgm X9 M p O P) (f : FC Z M M') (pk : PK M z p O P K) (hs : ∀ i, i ≤ 15 → ¬ Z (p + i)) (hO : ¬ Z O) (hP : ¬ Z P) : Pgm X9 M' p O P := by
  have b := pk.2.2.2.1.2.2.2
  have c := pk.2.2.2.2.1
  have ei : ∀ i, i ≤ 15 → mI M' (p + i) = mI M (p + i) := fun i hi => (f.sm (by omega) (hs i hi)).2.2.2
  have ep : mI M' p = mI M p := ei 0 (by decide)
  obtain ⟨γ, c4, n, h1, h2, h3, h4⟩ := h
  exact ⟨γ, c4, n, h1, h2.cgm ep (fun i _ i2 => ei i i2) (f.sm c.2.1 hO).2.2.2 (f.sm c.2.2 hP).2.2.2, by rw [ep]; exact h3, h4⟩
/-- is there a text p, what it counts, what exploring it comes to -/
def Itm (i9 : tI9) (M : mM) (t p O P : Nat) : Prop := mI M t 6 = i9.1 ∧ (mI M t 6 ≠ 0 → mI M p 3 = i9.2.1 ∧ mI M p 7 = i9.2.2.1 ∧ mI M p 12 = i9.2.2.2.1 ∧ Pgm i9.2.2.2.2.1 M p O P)
theorem Itm.fc {i9 : tI9} (h : Itm i9 M t p O P) (f : FC Z M M') (pk : PK M z p O P K) (e6 : mI M' t 6 = mI M t 6) (hs : ∀ i, i ≤ 15 → ¬ Z (p + i)) (hO : ¬ Z O) (hP : ¬ Z P) : Itm i9 M' t p O P := by
  have b := pk.2.2.2.1.2.2.2
  have c := pk.2.2.2.2.1
  have ep : mI M' p = mI M p := (f.sm (show p + 0 < mZ M by omega) (hs 0 (by decide))).2.2.2
  obtain ⟨h1, h2⟩ := h
  refine ⟨by rw [e6]; exact h1, fun u => ?_⟩
  rw [e6] at u
  obtain ⟨a1, a2, a3, a4⟩ := h2 u
  rw [ep]
  exact ⟨a1, a2, a3, a4.fc f pk hs hO hP⟩
theorem PK.lt (h : PK M z p O P K) : p < mZ M := by
  have a := h.2.2.2.1.2.2.2
  have b := h.2.2.2.2.1.1
  omega
/-- the text's side: tape, words, reader, programs -/
def Tx (c9 : tG9) (t T Kt N A B D Cw p O P K p' O' P' K' Ab Be Cm : Nat) (M : mM) : Prop := (mR M t 2 = t + 2 ∧ mR M t 3 = t + 7 ∧ mR M t 4 = p ∧ mR M t 5 = p') ∧ Tap c9.1 M t T Kt N ∧ WB M (t + 2) A B D Cw ∧ TZ M (t + 236) (t + 7) p' O' P' K' Ab Be Cm ∧ PK M (t + 236) p O P K ∧ ((p = t + 30 ∧ p' = t + 46) ∨ (p = t + 46 ∧ p' = t + 30)) ∧ (mI M t 6 ≠ 0 → ∃ (V F : Nat) (ns : Nat → Int) (sf ef : Nat → Nat) (L cnt : Nat), PW M (t + 236) p O P K V F ns sf ef L cnt) ∧ Itm c9.2 M t p O P
theorem Tx.fc {c9 : tG9} (h : Tx c9 t T Kt N A B D Cw p O P K p' O' P' K' Ab Be Cm M) (o : mOk M') (f : FC Z M M') (hz : ∀ x, t + 2 ≤ x → x < t + 62 → ¬ Z x) (nT : ¬ Z T) (nO : ¬ Z O) (nP : ¬ Z P) (hr : ∀ i, i ≤ 5 → mR M' t i = mR M t i) (i1 : mI M' t 1 = mI M t 1) (i6 : mI M' t 6 = mI M t 6) : Tx c9 t T Kt N A B D Cw p O P K p' O' P' K' Ab Be Cm M' := by
  obtain ⟨h1, h2, h3, h4, h5, h6, h7, h8⟩ := h
  refine ⟨by rw [hr 2 (by decide), hr 3 (by decide), hr 4 (by decide), hr 5 (by decide)]; exact h1, h2.fc f nT (hr 0 (by decide)) i1, h3.fc f (hz _ (by omega) (by omega)), h4.fc o f (fun x a b => hz x (by omega) (by omega)) (hz _ (by omega) (by omega)), h5.fc f (hz _ (by omega) (by omega)), h6, fun u => ?_, h8.fc f h5 i6 (fun i hi => hz _ (by omega) (by omega)) nO nP⟩
  rw [i6] at u
  obtain ⟨V, F, ns, sf, ef, L, cnt, hw⟩ := h7 u
  exact ⟨V, F, ns, sf, ef, L, cnt, hw.fc f (fun i hi => hz _ (by omega) (by omega)) nO nP⟩
/-- an empty game has nothing; a state has at most 60 commands -/
def GG0 (M : mM) (g cn cc bc : Nat) : Prop := (cn = 0 → cc = 0 ∧ bc = 0) ∧ ∀ j, j < cn → mI M (g + 4) (j + 1) ≤ mI M (g + 4) j + 60
/-- the game's side -/
def Gm (t U Ag Bg Cg cn cc bc n : Nat) (M : mM) : Prop := GK M (t + 62) ∧ MK M (t + 236) (t + 72) U Ag Bg Cg ∧ (U = t + 63 ∨ U = t + 73) ∧ (∀ x, x < 60 → mI M (t + 77) x ≤ mI M (t + 72) 9) ∧ (0 ≤ mI M (t + 72) 9 ∧ mI M (t + 72) 9 ≤ 512 * (n : Int)) ∧ GR M (t + 62) cn cc bc ∧ (1 ≤ cn → GS M (t + 62) (cn - 1)) ∧ GG0 M (t + 62) cn cc bc
theorem GR.eq {g : Nat} (h : GR M g cn cc bc) (e : ∀ i, i ≤ 9 ∨ (20 ≤ i ∧ i ≤ 22) → mI M' (g + i) = mI M (g + i)) : GR M' g cn cc bc := by
  rcases h with ⟨a, b⟩ | ⟨a, b⟩
  · have e0 := e 0 (by omega)
    rw [Nat.add_zero] at e0
    exact Or.inl ⟨a, by rw [e0]; exact b⟩
  · exact Or.inr ⟨a, b.eq e⟩
theorem Gm.fc (h : Gm t U Ag Bg Cg cn cc bc n M) (f : FC Z M M') (hz : ∀ x, t + 62 ≤ x → x < t + 85 → ¬ Z x) : Gm t U Ag Bg Cg cn cc bc n M' := by
  obtain ⟨h1, h2, h3, h4, h5, h6, h7, h8⟩ := h
  have z0 := h2.2.2.2.2.2.2.1.1
  have sm : ∀ i, i ≤ 22 → Sm M M' (t + 62 + i) := fun i hi => f.sm (by omega) (hz _ (by omega) (by omega))
  have s0 := sm 0 (by decide)
  rw [Nat.add_zero] at s0
  have e : ∀ i, i ≤ 9 ∨ (20 ≤ i ∧ i ≤ 22) → mI M' (t + 62 + i) = mI M (t + 62 + i) := fun i hi => (sm i (by omega)).2.2.2
  have e77 : mI M' (t + 77) = mI M (t + 77) := (sm 15 (by decide)).2.2.2
  have e72 : mI M' (t + 72) = mI M (t + 72) := (sm 10 (by decide)).2.2.2
  exact ⟨h1.eq2 (fun i hi => ⟨(sm i hi).1, (sm i hi).2.1⟩) (fun i _ => by rw [s0.2.2.1]), h2.fc f (hz _ (by omega) (by omega)), h3, by rw [e77, e72]; exact h4, by rw [e72]; exact h5, h6.eq e, fun u => (h7 u).eq e, h8.1, fun j hj => by rw [e 4 (by omega)]; exact h8.2 j hj⟩
theorem Gm.up (h : Gm t U Ag Bg Cg cn cc bc n M) : Gm t U Ag Bg Cg cn cc bc (n + 1) M := by
  obtain ⟨h1, h2, h3, h4, h5, h6⟩ := h
  exact ⟨h1, h2, h3, h4, ⟨h5.1, by have := h5.2; omega⟩, h6⟩
theorem GK.gk9 {g : Nat} (h : GK M g) : GK9 M g ∧ (mR M g 3 = g + 3 ∧ mN M (g + 3) = 512) := by
  obtain ⟨h1, ⟨-, r2, r3, r4, -, r6, r7, r8, r9, -⟩, ⟨k1, k2, k3, k4, k5, k6, k7, k8, k9, -⟩, ⟨-, n2, n3, n4, -, n6, n7, n8, n9, -⟩⟩ := h
  refine ⟨⟨h1, ⟨r2, r4, r6, r7, r8, r9⟩, fun i i1 i2 => ?_, ⟨n2, n4, n6, n7, n8, n9⟩⟩, r3, n3⟩
  have : i = 1 ∨ i = 2 ∨ i = 3 ∨ i = 4 ∨ i = 5 ∨ i = 6 ∨ i = 7 ∨ i = 8 ∨ i = 9 := by omega
  rcases this with e | e | e | e | e | e | e | e | e <;> subst e <;> assumption
theorem GR.gtt {g : Nat} (h : GR M g cn cc bc) (h0 : GG0 M g cn cc bc) : GTT M g cn cc bc := by
  rcases h with ⟨a, b⟩ | ⟨a, ⟨q1, q2, -⟩, -, -, t1, t2, t3, -, -, t6, -⟩
  · obtain ⟨c1, c2⟩ := h0.1 a
    subst a c1 c2
    exact ⟨⟨by omega, by omega, by omega⟩, fun c hc => absurd hc (by omega), fun j hj => absurd hj (by omega), b⟩
  · refine ⟨⟨q2, t1, t2⟩, t3, fun j hj => ?_, q1⟩
    obtain ⟨x, y, f1, f2, f3, f4⟩ := t6 j (by omega)
    have f5 := h0.2 j hj
    rw [f1, f2] at f5
    exact ⟨x, y, f1, f2, f3, f4, by omega⟩
/-- how many limbs a number may want -/
def Wt (t x : Nat) : Nat := if x < t + 236 then 300 else 17
theorem wt_r : ∀ x, t + 236 ≤ x → 17 ≤ Wt t x ∧ Wt t x ≤ 20000 := fun x hx => by unfold Wt; rw [if_neg (by omega)]; decide
theorem wt_s : ∀ x, t + 85 ≤ x → x ≤ t + 85 + 134 → 300 ≤ Wt t x := fun x _ hx => by unfold Wt; rw [if_pos (by omega)]; decide
/-- the numbers' side: Z its cells -/
def Ns (Z : Nat → Prop) (t : Nat) (Ls : List Nat) (v R k : Nat → Nat) (cn cc bc : Nat) (M : mM) : Prop := Nms Ls (Wt t) (t + 85) (t + 62) (t + 236) cn cc bc v R k M ∧ Cnu Z Ls (t + 85) v R k M ∧ Tr t v M ∧ mI M (v 2) 1 = 0 ∧ (mI M (v 0) 1 ≠ 0 → Chs M (t + 85) (t + 62) cn) ∧ (t + 228 ∈ Ls ∧ FrL Ls M (t + 230) ∧ Z (t + 230)) ∧ (mK M (t + 235) = 32 ∧ mN M (t + 235) = 400 ∧ Pch M (t + 235)) ∧ ∃ c : Nat, mI M t 18 = ((c : Nat) : Int) ∧ c ≤ 400
theorem Tr.cg (h : Tr t v M) (hk : mK M' t = mK M t) (hr : ∀ i, 9 ≤ i → mR M' t i = mR M t i) (hz : mZ M ≤ mZ M') : Tr t v M' := by
  obtain ⟨h1, h2, h3, h4, h5⟩ := h
  exact ⟨by rw [hk]; exact h1, by rw [hr 9 (by decide), hr 10 (by decide)]; exact h2, by rw [hr 11 (by decide), hr 12 (by decide), hr 13 (by decide), hr 14 (by decide)]; exact h3, by rw [hr 15 (by decide), hr 16 (by decide), hr 17 (by decide)]; exact h4, by omega⟩
theorem Ns.fc (h : Ns Z t Ls v R k cn cc bc M) (o : mOk M') (f : FC Y M M') (hY : ∀ x, Y x → ¬ Z x) (hg : ∀ i, i ≤ 9 → ¬ Y (t + 62 + i)) (hp : ¬ Y (t + 235)) (zp : t + 235 < mZ M) (hr : ∀ i, 9 ≤ i → mR M' t i = mR M t i) (i18 : mI M' t 18 = mI M t 18) : Ns Z t Ls v R k cn cc bc M' ∧ (Pn Ls k M' = Pn Ls k M ∧ Qn Ls k M' = Qn Ls k M) := by
  obtain ⟨h1, h2, h3, h4, h5, ⟨h6, h6', h6z⟩, h7, h8⟩ := h
  have nz : ∀ x, Z x → ¬ Y x := fun x a b => hY x b a
  obtain ⟨N, ks, cps⟩ := h1.off f o (fun x u => nz x (zm_in h2 x u)) hg
  have vI : ∀ i, i < 4 → mI M' (v i) = mI M (v i) := fun i hi => (f.sm (h1.2.1.1 i hi).1.2.2.2.2.1.1.1 (nz _ (h2.2.2.1 i hi).1)).2.2.2
  have sp := f.sm zp hp
  have s30 := f.sm (h1.1.2.2.1 (t + 85 + 30) st30).1 (nz _ (h2.1 _ (by omega) (by omega)))
  have g4 := f.sm (h1.1.2.2.2 4 (by decide)).1 (hg 4 (by decide))
  refine ⟨⟨N, ks.cnu f h2, h3.cg (f.2 t h3.2.2.2.2).1 hr f.1.1, by rw [vI 2 (by decide)]; exact h4, fun u => ?_, ⟨h6, h6'.sm (f.sm h6'.1.2.2 (nz _ h6z)) f.1.1, h6z⟩, by unfold Pch; rw [sp.1, sp.2.1, sp.2.2.2]; exact h7, by rw [i18]; exact h8⟩, pn_cg cps⟩
  rw [vI 0 (by decide)] at u
  exact chs_same (h5 u) s30.2.2.2 g4.2.2.2
end NCU
end
section
/-! The class keeps what was explored. -/
section XCD
variable {t g V : Nat} {M M' : mM} {i9 : tI9} {Nn : tP9}
/-- the place, the state and the tables of the states are the same, and whether values are worked out -/
def knF (M M' : mM) (t : Nat) : Prop := mI M' (mR M' t 11) 1 = mI M (mR M t 11) 1
def xcF (M M' : mM) (t : Nat) : Prop := mI M' t 7 = mI M t 7 ∧ mI M' t 8 = mI M t 8 ∧ (∀ i, i ≤ 9 → i ≠ 3 → mI M' (t + 62 + i) = mI M (t + 62 + i)) ∧ knF M M' t
/-- and the tape is as long as it was -/
def sE (M M' : mM) (t : Nat) : Prop := mI M' t 1 = mI M t 1 ∧ xcF M M' t
theorem sE.refl : sE M M t := ⟨rfl, rfl, rfl, fun _ _ _ => rfl, rfl⟩
/-- the same, but for the values -/
def sE0 (M M' : mM) (t : Nat) : Prop := mI M' t 1 = mI M t 1 ∧ mI M' t 7 = mI M t 7 ∧ mI M' t 8 = mI M t 8 ∧ ∀ i, i ≤ 9 → i ≠ 3 → mI M' (t + 62 + i) = mI M (t + 62 + i)
theorem sE0.kn (h : sE0 M M' t) (k : knF M M' t) : sE M M' t := ⟨h.1, h.2.1, h.2.2.1, h.2.2.2, k⟩
theorem xcF.trans {M2 : mM} (h : xcF M M' t) (k : xcF M' M2 t) : xcF M M2 t := ⟨k.1.trans h.1, k.2.1.trans h.2.1, fun i a b => (k.2.2.1 i a b).trans (h.2.2.1 i a b), k.2.2.2.trans h.2.2.2⟩
theorem brl_eq (e8 : mI M' (g + 8) = mI M (g + 8)) (e9 : mI M' (g + 9) = mI M (g + 9)) {a : Nat} : ∀ m, brl M' g a m = brl M g a m
  | 0 => rfl
  | m + 1 => by
    show brl M' g a m ++ [((mI M' (g + 8) (a + m)).toNat, mI M' (g + 9) (a + m))] = brl M g a m ++ [((mI M (g + 8) (a + m)).toNat, mI M (g + 9) (a + m))]
    rw [brl_eq e8 e9 m, e8, e9]
theorem cmmE (e : ∀ i, i ≤ 9 → i ≠ 3 → mI M' (g + i) = mI M (g + i)) (c : Nat) : cmm M' g c = cmm M g c := by
  unfold cmm
  rw [e 5 (by decide) (by decide), e 6 (by decide) (by decide), e 7 (by decide) (by decide), brl_eq (e 8 (by decide) (by decide)) (e 9 (by decide) (by decide))]
theorem xtmE (e : ∀ i, i ≤ 9 → i ≠ 3 → mI M' (g + i) = mI M (g + i)) : ∀ n, xtm M' g n = xtm M g n
  | 0 => rfl
  | n + 1 => by
    show xtm M' g n ++ [stm M' g n] = xtm M g n ++ [stm M g n]
    rw [xtmE e n]
    unfold stm
    rw [e 2 (by decide) (by decide), e 4 (by decide) (by decide), cml_cg (M' := M') (M := M) _ (fun c _ _ => cmmE e c)]
/-- the latest fault's place, explore's state, and what was explored -/
def XC (i9 : tI9) (M : mM) (t : Nat) : Prop := mI M t 7 = i9.2.2.2.2.2.1.1 ∧ (mI M t 8 = i9.2.2.2.2.2.1.2.1 ∧ mI M (mR M t 11) 1 = i9.2.2.2.2.2.1.2.2) ∧ mI M (t + 62) 0 = ((i9.2.2.2.2.2.2.1.length : Nat) : Int) ∧ (i9.2.2.2.2.2.2.1 = [] → i9.2.2.2.2.2.2.2 = []) ∧ (i9.2.2.2.2.2.2.1 ≠ [] → ∃ V : Nat, (V : Int) = i9.2.1 ∧ Sm9 M (t + 62) V i9.2.2.2.2.2.2.1.length = i9.2.2.2.2.2.2.1 ∧ xtm M (t + 62) i9.2.2.2.2.2.2.1.length = i9.2.2.2.2.2.2.2)
theorem XC.tb {S : List (List Int)} {T : xt9} {n : Nat} (h : ∃ V : Nat, (V : Int) = i9.2.1 ∧ Sm9 M (t + 62) V n = S ∧ xtm M (t + 62) n = T) (k : ∀ i, i ≤ 9 → i ≠ 3 → mI M' (t + 62 + i) = mI M (t + 62 + i)) : ∃ V : Nat, (V : Int) = i9.2.1 ∧ Sm9 M' (t + 62) V n = S ∧ xtm M' (t + 62) n = T := by
  obtain ⟨V, h1, h2, h3⟩ := h
  refine ⟨V, h1, ?_, by rw [xtmE k]; exact h3⟩
  unfold Sm9 lsm at h2 ⊢
  rw [k 1 (by decide) (by decide)]
  exact h2
theorem XC.xc (h : XC i9 M t) (k : xcF M M' t) : XC i9 M' t := by
  obtain ⟨h1, h2, h3, h4, h5⟩ := h
  exact ⟨by rw [k.1]; exact h1, ⟨by rw [k.2.1]; exact h2.1, k.2.2.2.trans h2.2⟩, by have := k.2.2.1 0 (by decide) (by decide); rw [Nat.add_zero] at this; rw [this]; exact h3, h4, fun u => XC.tb (h5 u) k.2.2.1⟩
/-- the tape's length, and what was explored -/
def tE (Nn : tP9) (M : mM) (t : Nat) : Prop := mI M t 1 = Nn.1 ∧ XC Nn.2.2 M t
theorem sE.trans (h : sE M M' t) (k : tE Nn M t) : tE Nn M' t := ⟨h.1.trans k.1, k.2.xc h.2⟩
theorem sE.mi (e : mI M' = mI M) (er : mR M' = mR M) : sE M M' t := by
  unfold sE xcF knF
  rw [e, er]
  exact ⟨rfl, rfl, rfl, fun _ _ _ => rfl, rfl⟩
/-- solving: are values worked out -/
theorem XC.kn {k : Int} (h : XC i9 M t) (e : sE0 M M' t) (hk : mI M' (mR M' t 11) 1 = k) : XC (kn9 i9 k) M' t := by
  obtain ⟨h1, h2, h3, h4, h5⟩ := h
  exact ⟨by rw [e.2.1]; exact h1, ⟨by rw [e.2.2.1]; exact h2.1, hk⟩, by have := e.2.2.2 0 (by decide) (by decide); rw [Nat.add_zero] at this; rw [this]; exact h3, h4, fun u => XC.tb (h5 u) e.2.2.2⟩
end XCD
end
section
/-! The class at rest. -/
section NCV
variable {G : mG} {d t x n cn cc bc T Kt N A B D Cw p O P K p' O' P' K' Ab Be Cm U Ag Bg Cg Ps Pc : Nat} {M M' M1 : mM} {Z Y C : Nat → Prop} {v R k : Nat → Nat} {Ls : List Nat} {c9 c8 : tG9}
/-- its cells lie apart: Z the numbers' cells, C all -/
def Ap (Z C : Nat → Prop) (t T A B D O P O' P' Ab Be Ag Bg : Nat) (M : mM) : Prop := (∀ x, (t ≤ x ∧ x < t + 85) ∨ x = t + 235 ∨ x ∈ [T, A, B, D, O, P, O', P', Ab, Be, Ag, Bg] → ¬ Z x) ∧ [T, A, B, D, O, P, O', P', Ab, Be, Ag, Bg].Nodup ∧ ((T = t + 1 ∨ t + 236 ≤ T) ∧ (A = t + 4 ∨ t + 236 ≤ A) ∧ (B = t + 5 ∨ t + 236 ≤ B) ∧ (D = t + 6 ∨ t + 236 ≤ D)) ∧ (∀ x, (t ≤ x ∧ x < t + 236) ∨ Z x ∨ x ∈ [T, A, B, D, O, P, O', P', Ab, Be, Ag, Bg] → C x) ∧ (∀ x, C x → x < mZ M)
/-- the room that it has taken -/
def Rmc (Kt Cw K K' Cm Cg Ps Pc : Nat) (Ls : List Nat) (k : Nat → Nat) (M : mM) : Prop := Ps = 2 * Kt + 6 * Cw + 4 * K + 4 * K' + 4 * Cm + 4 * Cg + Pn Ls k M ∧ Pc = 4 * Kt + 2 * Cw + K + K' + 2 * Cm + 2 * Cg + 64 * Qn Ls k M ∧ Ls.length ≤ 59 + 2 * (k 0 + k 1 + k 2 + k 3)
def CJ (c9 : tG9) (C : Nat → Prop) (n t Ps Pc T Kt N A B D Cw p O P K p' O' P' K' Ab Be Cm U Ag Bg Cg cn cc bc : Nat) (Ls : List Nat) (v R k : Nat → Nat) (Z : Nat → Prop) (M : mM) : Prop := mOk M ∧ Tx c9 t T Kt N A B D Cw p O P K p' O' P' K' Ab Be Cm M ∧ Gm t U Ag Bg Cg cn cc bc n M ∧ Ns Z t Ls v R k cn cc bc M ∧ Ap Z C t T A B D O P O' P' Ab Be Ag Bg M ∧ Rmc Kt Cw K K' Cm Cg Ps Pc Ls k M ∧ (1 ≤ cn → mI M t 6 ≠ 0)
/-- the class between two calls: n calls so far, C its cells, Ps and Pc its room -/
def CI (c9 : tG9) (C : Nat → Prop) (n t Ps Pc : Nat) (M : mM) : Prop := ∃ (T Kt N A B D Cw p O P K p' O' P' K' Ab Be Cm U Ag Bg Cg cn cc bc : Nat) (Ls : List Nat) (v R k : Nat → Nat) (Z : Nat → Prop), CJ c9 C n t Ps Pc T Kt N A B D Cw p O P K p' O' P' K' Ab Be Cm U Ag Bg Cg cn cc bc Ls v R k Z M
/-- what a call leaves behind -/
def cQ0 (c9 : tG9) (C : Nat → Prop) (n t Ps Pc : Nat) (M M' : mM) : Prop := ∃ (C' : Nat → Prop) (Ps' Pc' : Nat), CI c9 C' (n + 1) t Ps' Pc' M' ∧ FC C M M' ∧ (∀ x, C' x → C x ∨ (mZ M ≤ x ∧ x < mZ M')) ∧ mS M' + Ps ≤ mS M + Ps' ∧ 64 * mZ M' + Pc ≤ 64 * mZ M + Pc'
def cQ (c9 : tG9) (C : Nat → Prop) (n t Ps Pc : Nat) (M M' : mM) : Prop := cQ0 c9 C n t Ps Pc M M' ∧ sE M M' t
/-- the table of values is not among what a step may change -/
theorem CJ.knf (h : CJ c9 C n t Ps Pc T Kt N A B D Cw p O P K p' O' P' K' Ab Be Cm U Ag Bg Cg cn cc bc Ls v R k Z M) (r : mR M' t 11 = mR M t 11) (e : mI M' (v 0) 1 = mI M (v 0) 1) : knF M M' t := by
  unfold knF
  rw [r, h.2.2.2.1.2.2.1.2.2.1.1]
  exact e
theorem CJ.vz (h : CJ c9 C n t Ps Pc T Kt N A B D Cw p O P K p' O' P' K' Ab Be Cm U Ag Bg Cg cn cc bc Ls v R k Z M) : Z (v 0) := (h.2.2.2.1.2.1.2.2.1 0 (by decide)).1
theorem CJ.vfc (h : CJ c9 C n t Ps Pc T Kt N A B D Cw p O P K p' O' P' K' Ab Be Cm U Ag Bg Cg cn cc bc Ls v R k Z M) (f : FC Y M M') (hy : ∀ x, Y x → ¬ Z x) : mI M' (v 0) = mI M (v 0) := (f.sm (h.2.2.2.2.1.2.2.2.2 _ (h.2.2.2.2.1.2.2.2.1 _ (Or.inr (Or.inl h.vz)))) (fun u => hy _ u h.vz)).2.2.2
theorem CJ.up (h : CJ c9 C n t Ps Pc T Kt N A B D Cw p O P K p' O' P' K' Ab Be Cm U Ag Bg Cg cn cc bc Ls v R k Z M) : CJ c9 C (n + 1) t Ps Pc T Kt N A B D Cw p O P K p' O' P' K' Ab Be Cm U Ag Bg Cg cn cc bc Ls v R k Z M := ⟨h.1, h.2.1, h.2.2.1.up, h.2.2.2⟩
theorem CI.same (h : CI c9 C n t Ps Pc M) : cQ c9 C n t Ps Pc M M := by
  obtain ⟨T, Kt, N, A, B, D, Cw, p, O, P, K, p', O', P', K', Ab, Be, Cm, U, Ag, Bg, Cg, cn, cc, bc, Ls, v, R, k, Z, h⟩ := h
  exact ⟨⟨C, Ps, Pc, ⟨T, Kt, N, A, B, D, Cw, p, O, P, K, p', O', P', K', Ab, Be, Cm, U, Ag, Bg, Cg, cn, cc, bc, Ls, v, R, k, Z, h.up⟩, FC.refl, fun x u => Or.inl u, Nat.le_refl _, Nat.le_refl _⟩, sE.refl⟩
theorem CJ.tg (h : CJ c9 C n t Ps Pc T Kt N A B D Cw p O P K p' O' P' K' Ab Be Cm U Ag Bg Cg cn cc bc Ls v R k Z M) : Tg M t (t + 62) cn cc bc := ⟨h.1, ⟨h.2.2.2.1.2.2.1.1, h.2.2.2.1.2.2.1.2.1.1⟩, h.2.2.1.1, h.2.2.1.2.2.2.2.2.1⟩
theorem CI.tg (h : CI c9 C n t Ps Pc M) : ∃ cn cc bc, Tg M t (t + 62) cn cc bc := by
  obtain ⟨T, Kt, N, A, B, D, Cw, p, O, P, K, p', O', P', K', Ab, Be, Cm, U, Ag, Bg, Cg, cn, cc, bc, Ls, v, R, k, Z, h⟩ := h
  exact ⟨cn, cc, bc, h.tg⟩
/-- an answer, and nothing has changed -/
theorem CI.rd {r : Int} (h : CI c9 C n t Ps Pc M) (q : M' = M ∧ i32 r) : i32 r ∧ cQ c9 C n t Ps Pc M M' := by
  rw [q.1]
  exact ⟨q.2, h.same⟩
theorem c_CA_place (h : CI c9 C n t Ps Pc M) : Ci G y_CA_place d [vr t] M (fun r M' => i32 r ∧ cQ c9 C n t Ps Pc M M' ∧ r = mI M t 7) := by
  obtain ⟨cn, cc, bc, q⟩ := h.tg
  exact (s_CA_place q).mono (fun r M' e => ⟨(h.rd ⟨e.1, e.2.1⟩).1, (h.rd ⟨e.1, e.2.1⟩).2, e.2.2⟩)
theorem c_CA_state (h : CI c9 C n t Ps Pc M) : Ci G y_CA_state d [vr t] M (fun r M' => i32 r ∧ cQ c9 C n t Ps Pc M M' ∧ r = mI M t 8) := by
  obtain ⟨cn, cc, bc, q⟩ := h.tg
  exact (s_CA_state q).mono (fun r M' e => ⟨(h.rd ⟨e.1, e.2.1⟩).1, (h.rd ⟨e.1, e.2.1⟩).2, e.2.2⟩)
theorem c_CA_states (h : CI c9 C n t Ps Pc M) : Ci G y_CA_states d [vr t] M (fun r M' => i32 r ∧ cQ c9 C n t Ps Pc M M' ∧ r = mI M (t + 62) 0) := by
  obtain ⟨cn, cc, bc, q⟩ := h.tg
  have c5 := q.2.2.2.cnt.2
  have c0 := q.2.2.2.cnt.1
  refine (s_CA_states q).mono (fun r M' e => ?_)
  have k := h.rd (r := r) ⟨e.1, by rw [e.2]; exact i32s (by omega) (by omega)⟩
  exact ⟨k.1, k.2, by rw [c0]; exact e.2⟩
theorem c_CA_next {l1 l2 : Int} (i1 : i32 l1) (i2 : i32 l2) (h : CI c9 C n t Ps Pc M) : Ci G y_CA_next (d + 2) [vr t, vi l1, vi l2] M (fun r M' => i32 r ∧ cQ c9 C n t Ps Pc M M') := by
  obtain ⟨cn, cc, bc, q⟩ := h.tg
  exact (s_CA_next i1 i2 q).mono (fun r M' e => h.rd e)
theorem c_CA_items {l : Int} (il : i32 l) (h : CI c9 C n t Ps Pc M) : Ci G y_CA_items d [vr t, vi l] M (fun r M' => i32 r ∧ cQ c9 C n t Ps Pc M M' ∧ r = itq c9.2 l) := by
  obtain ⟨T, Kt, N, A, B, D, Cw, p, O, P, K, p', O', P', K', Ab, Be, Cm, U, Ag, Bg, Cg, cn, cc, bc, Ls, v, R, k, Z, j⟩ := id h
  refine (s_CA_items il j.tg ⟨j.2.1.1.2.2.1, j.2.1.2.2.2.2.1.1⟩).mono (fun r M' e => ⟨(h.rd e.1).1, (h.rd e.1).2, ?_⟩)
  obtain ⟨i1, i2⟩ := j.2.1.2.2.2.2.2.2.2
  have e2 := e.2
  unfold itq
  by_cases z : mI M t 6 = 0
  · rw [e2, if_pos z, ← i1, if_pos z]
  · obtain ⟨y1, y2, y3, -⟩ := i2 z
    rw [e2, if_neg z, ← i1, if_neg z, y1, y2, y3]
theorem c_CA_choice {l : Int} (il : i32 l) (h : CI c9 C n t Ps Pc M) : Ci G y_CA_choice (d + 1) [vr t, vi l] M (fun r M' => i32 r ∧ cQ c9 C n t Ps Pc M M') := by
  obtain ⟨T, Kt, N, A, B, D, Cw, p, O, P, K, p', O', P', K', Ab, Be, Cm, U, Ag, Bg, Cg, cn, cc, bc, Ls, v, R, k, Z, j⟩ := id h
  have jn := j.2.2.2.1
  exact (s_CA_choice il j.tg jn.2.2.1.2.1.2 jn.1.1.1.2.1 ⟨jn.2.2.1.2.2.1.1, (jn.1.2.1.1 0 (by decide)).1.1⟩).mono (fun r M' e => h.rd e)
theorem c_CA_rank {l : Int} (il : i32 l) (h : CI c9 C n t Ps Pc M) : Ci G y_CA_rank (d + 1) [vr t, vi l] M (fun r M' => i32 r ∧ cQ c9 C n t Ps Pc M M') := by
  obtain ⟨T, Kt, N, A, B, D, Cw, p, O, P, K, p', O', P', K', Ab, Be, Cm, U, Ag, Bg, Cg, cn, cc, bc, Ls, v, R, k, Z, j⟩ := id h
  have jn := j.2.2.2.1
  exact (s_CA_rank il j.tg jn.2.2.1.2.1.2 jn.1.1.1.2.1 ⟨jn.2.2.1.2.2.1.1, (jn.1.2.1.1 0 (by decide)).1.1⟩).mono (fun r M' e => h.rd e)
theorem c_CA_character {l : Int} (il : i32 l) (h : CI c9 C n t Ps Pc M) : Ci G y_CA_character d [vr t, vi l] M (fun r M' => i32 r ∧ cQ c9 C n t Ps Pc M M') := by
  obtain ⟨T, Kt, N, A, B, D, Cw, p, O, P, K, p', O', P', K', Ab, Be, Cm, U, Ag, Bg, Cg, cn, cc, bc, Ls, v, R, k, Z, j⟩ := id h
  obtain ⟨n1, n2, n3, n4, n5, n6, n7, c, e18, c4⟩ := j.2.2.2.1
  exact (s_CA_character il j.1 n3.1 n3.2.2.2.1.2.2 ⟨n7.1, n7.2.1⟩ e18 c4).mono (fun r M' e => h.rd e)
end NCV
end
section
/-! The class answers the questions about the states as the tables say. -/
section CAS
variable {G : mG} {d t n Ps Pc g cn cc bc : Nat} {M M' : mM} {C : Nat → Prop} {c9 : tG9} {i9 : tI9}
theorem XC.st (h : XC i9 M t) (l : Int) : stA9 i9.2.2.2.2.2.2.2 l = if 0 ≤ l ∧ l < mI M (t + 62) 0 then some (stm M (t + 62) l.toNat) else none := by
  obtain ⟨-, -, h3, h4, h5⟩ := h
  unfold stA9
  by_cases y : l < 0
  · rw [if_pos y, if_neg (by omega)]
  rw [if_neg y]
  by_cases z : i9.2.2.2.2.2.2.1 = []
  · rw [h4 z, if_neg (by rw [h3, z]; show ¬ (0 ≤ l ∧ l < ((0 : Nat) : Int)); omega)]
    all_goals rfl
  · obtain ⟨V, -, -, hT⟩ := h5 z
    rw [← hT, xtm_map, rget]
    by_cases u : 0 ≤ l ∧ l < mI M (t + 62) 0
    · rw [if_pos u, if_pos (by omega)]
    · rw [if_neg u, if_neg (by omega)]
/-- the commands of a state -/
theorem GR.row (hr : GR M g cn cc bc) {l : Int} (hl : 0 ≤ l ∧ l < cn) : ∃ a b : Nat, mI M (g + 4) l.toNat = ((a : Nat) : Int) ∧ mI M (g + 4) (l + 1).toNat = ((b : Nat) : Int) ∧ mI M (g + 4) (l.toNat + 1) = ((b : Nat) : Int) ∧ a ≤ b ∧ b ≤ cc ∧ cc ≤ 4096 ∧ 1 ≤ cn ∧ cn ≤ 512 := by
  rcases hr with ⟨e1, -⟩ | ⟨c1, q⟩
  · omega
  · obtain ⟨⟨-, q2, -⟩, -, -, t1, t2, -, -, -, t6, -⟩ := q
    obtain ⟨x, y', f1, f2, f3, f4⟩ := t6 l.toNat (by omega)
    exact ⟨x, y', f1, by rw [show (l + 1).toNat = l.toNat + 1 by omega]; exact f2, f2, f3, f4, by omega, c1, q2⟩
theorem e_CA_kind {l : Int} (il : i32 l) (h : CI c9 C n t Ps Pc M) (hx : XC c9.2 M t) : Ci G y_CA_kind (d + 1) [vr t, vi l] M (fun r M' => i32 r ∧ cQ c9 C n t Ps Pc M M' ∧ r = kdA9 c9.2.2.2.2.2.2.2.2 l) := by
  obtain ⟨cn, cc, bc, h1, ⟨h2, h3⟩, h4, h5⟩ := h.tg
  have hc := h5.cnt
  obtain ⟨g0, ⟨-, g2, -⟩, ⟨-, k2, -⟩, ⟨-, n2, -⟩⟩ := id h4
  refine k_CA_kind h1 il ?_
  rw [h3]
  refine ⟨h2, g0, (s_Ga_hasState il h1 g0 hc.1).mono (fun x4 M3 q => ?_)⟩
  obtain ⟨e, hb, hi⟩ := q
  subst e
  rw [h3, g2, n2]
  refine ⟨m_b32 hb, h1, fun u => ?_, fun v e => ?_⟩
  · have := hi.mp u
    exact ⟨h2, g0, k2, by omega, by omega⟩
  · have iv : i32 v := by
      rw [e]
      split
      · exact ⟨by decide, by decide⟩
      · exact (h1 _ _).1
    refine ⟨iv, h.same, ?_⟩
    unfold kdA9
    rw [e, hx.st, hc.1]
    by_cases y : x4 = 0
    · rw [if_pos y, if_neg (fun z => (hi.mpr z) y)]
      all_goals rfl
    · rw [if_neg y, if_pos (hi.mp y)]
      all_goals rfl
theorem e_CA_commands {l : Int} (il : i32 l) (h : CI c9 C n t Ps Pc M) (hx : XC c9.2 M t) : Ci G y_CA_commands (d + 1) [vr t, vi l] M (fun r M' => i32 r ∧ cQ c9 C n t Ps Pc M M' ∧ r = cnA9 c9.2.2.2.2.2.2.2.2 l) := by
  obtain ⟨cn, cc, bc, h1, ⟨h2, h3⟩, h4, h5⟩ := h.tg
  have hc := h5.cnt
  obtain ⟨g0, ⟨-, -, -, g4, -⟩, ⟨-, -, -, k4, -⟩, ⟨-, -, -, n4, -⟩⟩ := id h4
  refine k_CA_commands h1 il ?_
  rw [h3]
  refine ⟨h2, g0, (s_Ga_hasState il h1 g0 hc.1).mono (fun x4 M3 q => ?_)⟩
  obtain ⟨e, hb, hi⟩ := q
  subst e
  rw [h3, g4, n4]
  refine ⟨m_b32 hb, h1, fun u => ?_, fun v e => ?_⟩
  · have := hi.mp u
    exact ⟨h2, g0, k4, by omega, by omega⟩
  · have ev : i32 v ∧ v = cnA9 c9.2.2.2.2.2.2.2.2 l := by
      unfold cnA9
      rw [e, hx.st, hc.1]
      by_cases y : x4 = 0
      · rw [if_pos y, if_neg (fun z => (hi.mpr z) y)]
        exact ⟨⟨by decide, by decide⟩, rfl⟩
      · have z := hi.mp y
        obtain ⟨a, b, f1, f2, f2', f3, f4, f5, f6, f7⟩ := h5.row z
        rw [if_neg y, if_pos z, f1, f2]
        refine ⟨i32s (by omega) (by omega), ?_⟩
        show ((b : Nat) : Int) - ((a : Nat) : Int) = (((cml M3 (t + 62) (mI M3 (t + 62 + 4) l.toNat).toNat ((mI M3 (t + 62 + 4) (l.toNat + 1)).toNat - (mI M3 (t + 62 + 4) l.toNat).toNat)).length : Nat) : Int)
        rw [cml_map, List.length_map, List.length_range, f1, f2', Int.toNat_natCast, Int.toNat_natCast]
        omega
    exact ⟨ev.1, h.same, ev.2⟩
theorem e_Ga_commandAt {l1 l2 : Int} (i1 : i32 l1) (i2 : i32 l2) (h1 : mOk M) (hk : GK M g) (hr : GR M g cn cc bc) : Ci G y_Ga_commandAt (d + 1) [vr g, vi l1, vi l2] M (fun r M' => M' = M ∧ i32 r ∧ (cmdP M g cn l1 l2 → r = mI M (g + 4) l1.toNat + l2) ∧ (¬ cmdP M g cn l1 l2 → r = -1)) := by
  obtain ⟨g0, ⟨-, -, -, g4, -⟩, ⟨-, -, -, k4, -⟩, ⟨-, -, -, n4, -⟩⟩ := id hk
  have hc := hr.cnt
  refine k_Ga_commandAt h1 i1 i2 ⟨g0, (s_Ga_hasState i1 h1 g0 hc.1).mono (fun x3 M2 q => ?_)⟩
  obtain ⟨e2, hx, hiff⟩ := q
  subst e2
  have bad : ((x3 = 0) ∨ (l2 < 0) ∨ ¬ (l2 < mI M2 (g + 4) (l1 + 1).toNat - mI M2 (g + 4) l1.toNat)) → ¬ cmdP M2 g cn l1 l2 := fun u p => by
    rcases u with u | u | u
    · exact (hiff.mpr p.1) u
    · exact absurd p.2.1 (by omega)
    · exact u p.2.2
  have row : x3 ≠ 0 → ∃ a b : Nat, mI M2 (g + 4) l1.toNat = ((a : Nat) : Int) ∧ mI M2 (g + 4) (l1 + 1).toNat = ((b : Nat) : Int) ∧ mI M2 (g + 4) (l1.toNat + 1) = ((b : Nat) : Int) ∧ a ≤ b ∧ b ≤ cc ∧ cc ≤ 4096 ∧ 1 ≤ cn ∧ cn ≤ 512 := fun y => hr.row (hiff.mp y)
  clear hr
  rw [g4, n4]
  refine ⟨m_b32 hx, h1, fun y _ => ?_, fun u => ⟨rfl, ⟨by decide, by decide⟩, fun p => absurd p (bad u), fun _ => rfl⟩, fun y => ?_⟩
  · obtain ⟨a, b, f1, f2, -, f3, f4, f5, f6, f7⟩ := row y
    have b0 := hiff.mp y
    rw [f1, f2]
    exact ⟨g0, k4, by omega, by omega, ⟨by omega, by omega⟩⟩
  · have y0 : x3 ≠ 0 := fun t => y (Or.inl t)
    have b0 := hiff.mp y0
    obtain ⟨a, b, f1, f2, -, f3, f4, f5, f6, f7⟩ := row y0
    have y1 : 0 ≤ l2 := by
      by_cases t : l2 < 0
      · exact absurd (Or.inr (Or.inl t)) y
      · omega
    have y2 : l2 < mI M2 (g + 4) (Int.toNat (l1 + 1)) - mI M2 (g + 4) (Int.toNat l1) := Classical.byContradiction (fun t => y (Or.inr (Or.inr t)))
    have yy : cmdP M2 g cn l1 l2 := ⟨b0, y1, y2⟩
    rw [f1, f2] at y2
    rw [f1]
    exact ⟨g0, k4, by omega, rfl, ⟨by omega, by omega⟩, fun _ => rfl, fun n => absurd yy n⟩
/-- where a command's numbers stand -/
theorem XC.cm (h : XC i9 M t) (hr : GR M (t + 62) cn cc bc) (l1 l2 : Int) : (¬ cmdP M (t + 62) cn l1 l2 ∧ cmA9 i9.2.2.2.2.2.2.2 l1 l2 = none) ∨ (cmdP M (t + 62) cn l1 l2 ∧ ∃ j : Nat, mI M (t + 62 + 4) l1.toNat + l2 = ((j : Nat) : Int) ∧ j < cc ∧ 1 ≤ cn ∧ cmA9 i9.2.2.2.2.2.2.2 l1 l2 = some (cmm M (t + 62) j)) := by
  have hc := hr.cnt
  have hst := h.st l1
  unfold cmA9
  rw [hst, hc.1]
  by_cases y : 0 ≤ l1 ∧ l1 < ((cn : Nat) : Int)
  · obtain ⟨a, b, f1, f2, f2', f3, f4, f5, f6, f7⟩ := hr.row y
    rw [if_pos y]
    have red : ((some (stm M (t + 62) l1.toNat)).bind (fun x => if l2 < 0 then none else x.2[l2.toNat]?)) = if l2 < 0 then none else (cml M (t + 62) (mI M (t + 62 + 4) l1.toNat).toNat ((mI M (t + 62 + 4) (l1.toNat + 1)).toNat - (mI M (t + 62 + 4) l1.toNat).toNat))[l2.toNat]? := rfl
    rw [red]
    by_cases z : l2 < 0
    · rw [if_pos z]
      exact Or.inl ⟨fun u => absurd u.2.1 (by omega), rfl⟩
    · rw [if_neg z, cml_map, rget, f1, f2', Int.toNat_natCast, Int.toNat_natCast]
      by_cases u : l2 < ((b : Nat) : Int) - ((a : Nat) : Int)
      · rw [if_pos (by omega)]
        exact Or.inr ⟨⟨y, by omega, by rw [f1, f2]; exact u⟩, a + l2.toNat, by omega, by omega, f6, rfl⟩
      · rw [if_neg (by omega)]
        exact Or.inl ⟨fun v => u (by have := v.2.2; rw [f1, f2] at this; exact this), rfl⟩
  · rw [if_neg y]
    exact Or.inl ⟨fun u => y u.1, rfl⟩
theorem e_CA_command {l1 l2 : Int} (i1 : i32 l1) (i2 : i32 l2) (h : CI c9 C n t Ps Pc M) (hx : XC c9.2 M t) : Ci G y_CA_command (d + 2) [vr t, vi l1, vi l2] M (fun r M' => i32 r ∧ cQ c9 C n t Ps Pc M M' ∧ r = caA9 c9.2.2.2.2.2.2.2.2 l1 l2) := by
  obtain ⟨cn, cc, bc, h1, ⟨h2, h3⟩, h4, h5⟩ := h.tg
  obtain ⟨g0, ⟨-, -, -, -, g5, -⟩, ⟨-, -, -, -, k5, -⟩, ⟨-, -, -, -, n5, -⟩⟩ := id h4
  refine k_CA_command h1 i1 i2 ?_
  rw [h3]
  refine ⟨h2, g0, (e_Ga_commandAt (d := d) i1 i2 h1 h4 h5).mono (fun x4 M3 q => ?_)⟩
  obtain ⟨e, ix, hi⟩ := q
  subst e
  rw [h3, g5, n5]
  unfold caA9
  rcases hx.cm h5 l1 l2 with ⟨np, ec⟩ | ⟨yp, j, ej, jc, c1, ec⟩
  · have hi := hi.2 np
    rw [ec]
    exact ⟨ix, h1, fun u => absurd hi u, fun v e => ⟨by rw [e, if_pos hi]; exact ⟨by decide, by decide⟩, h.same, by rw [e, if_pos hi]; rfl⟩⟩
  · have hi := hi.1 yp
    rw [ej] at hi
    obtain ⟨b1, b2⟩ := h5.cmd c1
    obtain ⟨x, y, mu, e1, e2, e3, e4, e5, e6, e7, e8, e9, e10, e11⟩ := b2 j jc
    have nx : ¬ (x4 = -1) := by omega
    rw [ec]
    refine ⟨ix, h1, fun _ => ⟨h2, g0, k5, by omega, by omega⟩, fun v e => ?_⟩
    rw [if_neg nx, hi, Int.toNat_natCast] at e
    refine ⟨by rw [e]; exact (h1 _ _).1, h.same, ?_⟩
    rw [e]
    show mI M3 (t + 62 + 5) j = ((cmm M3 (t + 62) j).1 : Int)
    first
      | rfl
      | (show mI M3 (t + 62 + 5) j = (((mI M3 (t + 62 + 5) j).toNat : Nat) : Int); omega)
theorem e_CA_branches {l1 l2 : Int} (i1 : i32 l1) (i2 : i32 l2) (h : CI c9 C n t Ps Pc M) (hx : XC c9.2 M t) : Ci G y_CA_branches (d + 2) [vr t, vi l1, vi l2] M (fun r M' => i32 r ∧ cQ c9 C n t Ps Pc M M' ∧ r = bnA9 c9.2.2.2.2.2.2.2.2 l1 l2) := by
  obtain ⟨cn, cc, bc, h1, ⟨h2, h3⟩, h4, h5⟩ := h.tg
  obtain ⟨g0, ⟨-, -, -, -, -, -, g7, -⟩, ⟨-, -, -, -, -, -, k7, -⟩, ⟨-, -, -, -, -, -, n7, -⟩⟩ := id h4
  refine k_CA_branches h1 i1 i2 ?_
  rw [h3]
  refine ⟨h2, g0, (e_Ga_commandAt (d := d) i1 i2 h1 h4 h5).mono (fun x4 M3 q => ?_)⟩
  obtain ⟨e, ix, hi⟩ := q
  subst e
  rw [h3, g7, n7]
  unfold bnA9
  rcases hx.cm h5 l1 l2 with ⟨np, ec⟩ | ⟨yp, j, ej, jc, c1, ec⟩
  · have hi := hi.2 np
    rw [ec]
    exact ⟨ix, h1, fun u => absurd hi u, fun v e => ⟨by rw [e, if_pos hi]; exact ⟨by decide, by decide⟩, h.same, by rw [e, if_pos hi]; rfl⟩⟩
  · have hi := hi.1 yp
    rw [ej] at hi
    obtain ⟨b1, b2⟩ := h5.cmd c1
    obtain ⟨x, y, mu, e1, e2, e3, e4, -⟩ := b2 j jc
    have nx : ¬ (x4 = -1) := by omega
    rw [ec]
    refine ⟨ix, h1, fun _ => ⟨h2, g0, k7, by omega, by omega⟩, fun v e => ?_⟩
    rw [if_neg nx, hi, show (((j : Nat) : Int) + 1).toNat = j + 1 by omega, Int.toNat_natCast, e1, e2] at e
    refine ⟨by rw [e]; exact i32s (by omega) (by omega), h.same, ?_⟩
    rw [e]
    show ((y : Nat) : Int) - ((x : Nat) : Int) = (((brl M3 (t + 62) (mI M3 (t + 62 + 7) j).toNat ((mI M3 (t + 62 + 7) (j + 1)).toNat - (mI M3 (t + 62 + 7) j).toNat)).length : Nat) : Int)
    rw [brl_map, List.length_map, List.length_range, e1, e2, Int.toNat_natCast, Int.toNat_natCast]
    omega
theorem e_CA_branch {l1 l2 l3 l4 : Int} (i1 : i32 l1) (i2 : i32 l2) (i3 : i32 l3) (i4 : i32 l4) (h : CI c9 C n t Ps Pc M) (hx : XC c9.2 M t) : Ci G y_CA_branch (d + 2) [vr t, vi l1, vi l2, vi l3, vi l4] M (fun r M' => i32 r ∧ cQ c9 C n t Ps Pc M M' ∧ r = brA9 c9.2.2.2.2.2.2.2.2 l1 l2 l3 l4) := by
  obtain ⟨cn, cc, bc, h1, ⟨h2, h3⟩, h4, h5⟩ := h.tg
  obtain ⟨g0, ⟨-, -, -, -, -, g6, g7, g8, g9, -⟩, ⟨-, -, -, -, -, k6, k7, k8, k9, -⟩, ⟨-, -, -, -, -, n6, n7, n8, n9, -⟩⟩ := id h4
  refine k_CA_branch h1 i1 i2 i3 i4 ?_
  rw [h3]
  refine ⟨h2, g0, (e_Ga_commandAt (d := d) i1 i2 h1 h4 h5).mono (fun x4 M3 q => ?_)⟩
  obtain ⟨e, ix, hi⟩ := q
  subst e
  have same := h.same
  rw [h3, g7, n7, g6, n6, g9, n9]
  unfold brA9
  rcases hx.cm h5 l1 l2 with ⟨np, ec⟩ | ⟨yp, j, ej, jc, c1, ec⟩
  · have hi := hi.2 np
    rw [ec]
    exact ⟨ix, h1, fun w => absurd hi w, fun _ => ⟨⟨by decide, by decide⟩, same, rfl⟩, fun w => absurd (Or.inl hi) w⟩
  have hi := hi.1 yp
  rw [ej] at hi
  obtain ⟨b1, b2⟩ := h5.cmd c1
  have hm := b2 j jc
  obtain ⟨x, y, mu, e1, e2, e3, e4, e5, e6, e7, e8, e9, -⟩ := id hm
  have nx : ¬ (x4 = -1) := by omega
  have wl : ∀ i, x ≤ i → i < y → mI M3 (t + 62 + 9) i < 1000000000 := fun i a b => by
    have := wsm_le (M := M3) (g := t + 62) (x := x) (n := y - x) (fun i a b => (e5 i a (by omega)).2.2) (y - x) (Nat.le_refl _) i a (by omega)
    rw [e9] at this
    omega
  rw [ec, hi, show (((j : Nat) : Int) + 1).toNat = j + 1 by omega, Int.toNat_natCast, e1, e2, e6]
  have bq : bqA9 (cmm M3 (t + 62) j) l3 = if 0 ≤ l3 ∧ l3 < ((y : Nat) : Int) - ((x : Nat) : Int) then some ((mI M3 (t + 62 + 8) (x + l3.toNat)).toNat, mI M3 (t + 62 + 9) (x + l3.toNat)) else none := by
    unfold bqA9
    by_cases z : l3 < 0
    · rw [if_pos z, if_neg (by omega)]
    · rw [if_neg z]
      show (brl M3 (t + 62) (mI M3 (t + 62 + 7) j).toNat ((mI M3 (t + 62 + 7) (j + 1)).toNat - (mI M3 (t + 62 + 7) j).toNat))[l3.toNat]? = _
      rw [brl_map, rget, e1, e2, Int.toNat_natCast, Int.toNat_natCast]
      by_cases u : l3 < ((y : Nat) : Int) - ((x : Nat) : Int)
      · rw [if_pos (by omega), if_pos ⟨by omega, u⟩]
      · rw [if_neg (by omega), if_neg (fun v => u v.2)]
  have hmu : (cmm M3 (t + 62) j).2.1 = ((mu : Nat) : Int) := e6
  have red : ((some (cmm M3 (t + 62) j)).map (fun c => ((bqA9 c l3).map (b1A9 c.2.1 l4)).getD (-1))).getD (-1) = ((bqA9 (cmm M3 (t + 62) j) l3).map (b1A9 ((mu : Nat) : Int) l4)).getD (-1) := by
    rw [← hmu]
    all_goals rfl
  rw [red, bq]
  refine ⟨by rw [← hi]; exact ix, h1, fun _ _ => ⟨h2, g0, k7, by omega, by omega, i32s (by omega) (by omega)⟩, fun w => ⟨⟨by decide, by decide⟩, same, ?_⟩, fun v => ?_⟩
  · rw [if_neg (fun u => by rcases w with w | w | w <;> omega)]
    all_goals rfl
  have v1 : 0 ≤ l3 := by
    by_cases q : l3 < 0
    · exact absurd (Or.inr (Or.inl q)) v
    · omega
  have v2 : l3 < ((y : Nat) : Int) - ((x : Nat) : Int) := Classical.byContradiction (fun q => v (Or.inr (Or.inr q)))
  have ei : Int.toNat (((x : Nat) : Int) + l3) = x + l3.toNat := by omega
  have we := e5 (x + l3.toNat) (by omega) (by omega)
  have we2 := wl (x + l3.toNat) (by omega) (by omega)
  rw [ei, if_pos ⟨v1, v2⟩]
  have red2 : ((some ((mI M3 (t + 62 + 8) (x + l3.toNat)).toNat, mI M3 (t + 62 + 9) (x + l3.toNat))).map (b1A9 ((mu : Nat) : Int) l4)).getD (-1) = b1A9 ((mu : Nat) : Int) l4 ((mI M3 (t + 62 + 8) (x + l3.toNat)).toNat, mI M3 (t + 62 + 9) (x + l3.toNat)) := rfl
  rw [red2]
  unfold b1A9
  refine ⟨h2, g0, k7, by omega, k9, by omega, k6, by omega, (x_Ma_commonDivisor (d := d + 1) ⟨by omega, by omega⟩ ⟨by omega, by omega⟩ h1).mono (fun x27 M26 q => ?_)⟩
  obtain ⟨e, ⟨f1, f2⟩, f3⟩ := q
  subst e
  rw [h3, g8, n8, g9, n9, g6, n6, e6]
  have td : ∀ z : Int, 0 ≤ z → z < 1000000000 → i32 (Int.tdiv z x27) ∧ Int.tdiv z x27 = z / x27 := fun z z0 z1 => by
    rw [Int.tdiv_eq_ediv_of_nonneg z0]
    have p1 := Int.ediv_le_self x27 z0
    have p2 : 0 ≤ z / x27 := Int.ediv_nonneg z0 (by omega)
    exact ⟨⟨by omega, by omega⟩, rfl⟩
  have i27 : i32 x27 := ⟨by omega, by omega⟩
  refine ⟨⟨by omega, by omega⟩, h1, fun u0 => ⟨h2, g0, k8, by omega, (h1 _ _).1, same, ?_⟩, fun u0 => ⟨fun u1 => ⟨h2, g0, k9, by omega, i27, by omega, (td _ (by omega) we2).1, same, ?_⟩, fun u1 => ⟨fun u2 => ⟨h2, g0, k6, by omega, i27, by omega, (td _ (by omega) (by omega)).1, same, ?_⟩, fun u2 => ⟨⟨by decide, by decide⟩, same, ?_⟩⟩⟩⟩
  · rw [if_pos u0]
    show _ = (((mI M26 (t + 62 + 8) (x + l3.toNat)).toNat : Nat) : Int)
    omega
  · rw [if_neg u0, if_pos u1, (td _ (by omega) we2).2, f3]
    all_goals rfl
  · rw [if_neg u0, if_neg u1, if_pos u2, (td ((mu : Nat) : Int) (by omega) (by omega)).2, f3]
    all_goals rfl
  · rw [if_neg u0, if_neg u1, if_neg u2]
theorem e_CA_variable {l1 l2 : Int} (i1 : i32 l1) (i2 : i32 l2) (h : CI c9 C n t Ps Pc M) (hx : XC c9.2 M t) (hl : (0 ≤ l1 ∧ l1 < mI M (t + 62) 0) ∧ (0 ≤ l2 ∧ l2 < mI M (mR M t 4) 3)) : Ci G y_CA_variable (d + 1) [vr t, vi l1, vi l2] M (fun r M' => i32 r ∧ cQ c9 C n t Ps Pc M M' ∧ r = vaA9 c9.2.2.2.2.2.2.2.1 l1 l2) := by
  have same := h.same
  obtain ⟨T, Kt, N, A, B, D, Cw, p, O, P, K, p', O', P', K', Ab, Be, Cm, U, Ag, Bg, Cg, cn, cc, bc, Ls, v, R, k, Z, j⟩ := id h
  have r4 := j.2.1.1.2.2.1
  have c0 := j.tg.2.2.2.cnt.1
  obtain ⟨l11, l12⟩ := hl
  rw [c0] at l11
  rw [r4] at l12
  have c6 := j.2.2.2.2.2.2 (by omega)
  obtain ⟨V, F, ns, sf, ef, L, cnt, hw⟩ := j.2.1.2.2.2.2.2.2.1 c6
  have i3 := (j.2.1.2.2.2.2.2.2.2.2 c6).1
  have e3 := hw.2.2.1
  have kp := hw.1.1
  rw [e3.1] at l12
  obtain ⟨h1, ⟨h2, h3⟩, h4, h5⟩ := j.tg
  have hc := h5.cnt
  obtain ⟨g0, ⟨g1, -⟩, ⟨k1, -⟩, ⟨n1, -⟩⟩ := id h4
  have sne : c9.2.2.2.2.2.2.2.1 ≠ [] := fun z => by
    have x3 := hx.2.2.1
    rw [z, c0] at x3
    have : ((cn : Nat) : Int) = ((0 : Nat) : Int) := x3
    omega
  obtain ⟨W, hW, hS, -⟩ := hx.2.2.2.2 sne
  have ln := hx.2.2.1
  rw [c0] at ln
  refine k_CA_variable h1 i1 i2 ?_
  rw [h3]
  refine ⟨h2, g0, (s_Ga_hasState i1 h1 g0 hc.1).mono (fun x M3 q => ?_)⟩
  obtain ⟨e, hb, hi⟩ := q
  subst e
  have x0 := hi.mpr l11
  rw [h3, r4, e3.1, g1, n1]
  refine ⟨m_b32 hb, h1, fun _ _ => ⟨h2, kp⟩, fun u => ?_, fun _ => ⟨h2, g0, k1, by omega, (h1 _ _).1, same, ?_⟩⟩
  · rcases u with u | u | u
    · exact absurd u x0
    · omega
    · omega
  · have hWV : W = V := by
      have : (W : Int) = mI M3 p 3 := hW.trans i3.symm
      rw [e3.1] at this
      omega
    unfold vaA9
    rw [← hS]
    unfold Sm9
    rw [rget, if_pos (by omega)]
    show _ = ((lsm M3 (t + 62) W l1.toNat)[l2.toNat]?).getD 0
    unfold lsm
    rw [rget, if_pos (by omega)]
    show _ = mI M3 (t + 62 + 1) (12 * l1.toNat + l2.toNat)
    rw [show (l1 * 12 + l2).toNat = 12 * l1.toNat + l2.toNat by omega]
end CAS
end
section
/-! The class at rest: cells that are made anew; end. -/
section NCW
variable {G : mG} {d t x n cn cc bc T Kt N A B D Cw p O P K p' O' P' K' Ab Be Cm U Ag Bg Cg Ps Pc T1 A1 B1 D1 O1 P1 O2 P2 Ab1 Be1 Ag1 Bg1 Kt' N' : Nat} {M M' M1 : mM} {Z Y C : Nat → Prop} {v R k : Nat → Nat} {Ls : List Nat} {c9 c8 : tG9}
theorem Ap.nz (h : Ap Z C t T A B D O P O' P' Ab Be Ag Bg M) : (∀ x, t ≤ x → x < t + 85 → ¬ Z x) ∧ ¬ Z (t + 235) ∧ (¬ Z T ∧ ¬ Z O ∧ ¬ Z P) := ⟨fun x a b => h.1 x (Or.inl ⟨a, b⟩), h.1 _ (Or.inr (Or.inl rfl)), h.1 _ (Or.inr (Or.inr (by simp))), h.1 _ (Or.inr (Or.inr (by simp))), h.1 _ (Or.inr (Or.inr (by simp)))⟩
theorem Ap.oc (h : Ap Z C t T A B D O P O' P' Ab Be Ag Bg M) : (∀ x, t ≤ x → x < t + 236 → C x ∧ x < mZ M) ∧ (∀ x, Z x → C x ∧ x < mZ M) ∧ (∀ x, x ∈ [T, A, B, D, O, P, O', P', Ab, Be, Ag, Bg] → C x ∧ x < mZ M) := by
  obtain ⟨-, -, -, h4, h5⟩ := h
  exact ⟨fun x a b => ⟨h4 x (Or.inl ⟨a, b⟩), h5 x (h4 x (Or.inl ⟨a, b⟩))⟩, fun x a => ⟨h4 x (Or.inr (Or.inl a)), h5 x (h4 x (Or.inr (Or.inl a)))⟩, fun x a => ⟨h4 x (Or.inr (Or.inr a)), h5 x (h4 x (Or.inr (Or.inr a)))⟩⟩
/-- the same cells, later -/
theorem Ap.mz (h : Ap Z C t T A B D O P O' P' Ab Be Ag Bg M) (hz : mZ M ≤ mZ M') : Ap Z C t T A B D O P O' P' Ab Be Ag Bg M' := ⟨h.1, h.2.1, h.2.2.1, h.2.2.2.1, fun x u => Nat.lt_of_lt_of_le (h.2.2.2.2 x u) hz⟩
/-- arrays have been made anew -/
theorem Ap.re (h : Ap Z C t T A B D O P O' P' Ab Be Ag Bg M) (hz : mZ M ≤ mZ M') (nd : [T1, A1, B1, D1, O1, P1, O2, P2, Ab1, Be1, Ag1, Bg1].Nodup) (pl : (T1 = t + 1 ∨ t + 236 ≤ T1) ∧ (A1 = t + 4 ∨ t + 236 ≤ A1) ∧ (B1 = t + 5 ∨ t + 236 ≤ B1) ∧ (D1 = t + 6 ∨ t + 236 ≤ D1)) (old : ∀ x, x ∈ [T1, A1, B1, D1, O1, P1, O2, P2, Ab1, Be1, Ag1, Bg1] → x ∈ [T, A, B, D, O, P, O', P', Ab, Be, Ag, Bg] ∨ (mZ M ≤ x ∧ x < mZ M')) : Ap Z (Zn C M M') t T1 A1 B1 D1 O1 P1 O2 P2 Ab1 Be1 Ag1 Bg1 M' := by
  obtain ⟨c1, c2, c3⟩ := h.oc
  obtain ⟨h1, -, -, h4, h5⟩ := h
  refine ⟨fun x hx => ?_, nd, pl, fun x hx => ?_, fun x hx => ?_⟩
  · rcases hx with u | u | u
    · exact h1 x (Or.inl u)
    · exact h1 x (Or.inr (Or.inl u))
    · rcases old x u with w | w
      · exact h1 x (Or.inr (Or.inr w))
      · intro zx
        have := (c2 x zx).2
        omega
  · rcases hx with u | u | u
    · exact Or.inl (c1 x u.1 u.2).1
    · exact Or.inl (c2 x u).1
    · rcases old x u with w | w
      · exact Or.inl (c3 x w).1
      · exact Or.inr w
  · rcases hx with u | u
    · have := h5 x u; omega
    · exact u.2
/-- numbers have been made -/
theorem Ap.zn (h : Ap Z C t T A B D O P O' P' Ab Be Ag Bg M) (hz : mZ M ≤ mZ M') : Ap (Zn Z M M') (Zn C M M') t T A B D O P O' P' Ab Be Ag Bg M' := by
  obtain ⟨c1, c2, c3⟩ := h.oc
  obtain ⟨h1, h2, h3, h4, h5⟩ := h
  refine ⟨fun x hx u => ?_, h2, h3, fun x hx => ?_, fun x hx => ?_⟩
  · have lt : x < mZ M := by
      rcases hx with w | w | w
      · exact (c1 x w.1 (by omega)).2
      · exact (c1 x (by omega) (by omega)).2
      · exact (c3 x w).2
    rcases u with u | u
    · exact h1 x hx u
    · omega
  · rcases hx with u | (u | u) | u
    · exact Or.inl (c1 x u.1 u.2).1
    · exact Or.inl (c2 x u).1
    · exact Or.inr u
    · exact Or.inl (c3 x u).1
  · rcases hx with u | u
    · have := h5 x u; omega
    · exact u.2
/-- the text's side with another tape -/
theorem Tx.tap {c7 : Nat → Int} (h : Tx c9 t T Kt N A B D Cw p O P K p' O' P' K' Ab Be Cm M) (o : mOk M') (f : FC Y M M') (hz : ∀ x, t + 2 ≤ x → x < t + 62 → ¬ Y x) (nO : ¬ Y O) (nP : ¬ Y P) (hr : ∀ i, 2 ≤ i → mR M' t i = mR M t i) (i6 : mI M' t 6 = mI M t 6) (tap : Tap c7 M' t T1 Kt' N') : Tx (c7, c9.2) t T1 Kt' N' A B D Cw p O P K p' O' P' K' Ab Be Cm M' := by
  obtain ⟨h1, h2, h3, h4, h5, h6, h7, h8⟩ := h
  refine ⟨by rw [hr 2 (by decide), hr 3 (by decide), hr 4 (by decide), hr 5 (by decide)]; exact h1, tap, h3.fc f (hz _ (by omega) (by omega)), h4.fc o f (fun x a b => hz x (by omega) (by omega)) (hz _ (by omega) (by omega)), h5.fc f (hz _ (by omega) (by omega)), h6, fun u => ?_, h8.fc f h5 i6 (fun i hi => hz _ (by omega) (by omega)) nO nP⟩
  rw [i6] at u
  obtain ⟨V, F, ns, sf, ef, L, cnt, hw⟩ := h7 u
  exact ⟨V, F, ns, sf, ef, L, cnt, hw.fc f (fun i hi => hz _ (by omega) (by omega)) nO nP⟩
theorem sta2_lo (pT : T = t + 1 ∨ t + 236 ≤ T) : (∀ x, t + 2 ≤ x → x < t + 62 → ¬ Sta2 t T x) ∧ (∀ x, t + 62 ≤ x → x < t + 85 → ¬ Sta2 t T x) ∧ ¬ Sta2 t T (t + 235) ∧ (∀ i, i ≤ 9 → ¬ Sta2 t T (t + 62 + i)) := by
  unfold Sta2
  exact ⟨fun x a b u => by omega, fun x a b u => by omega, fun u => by omega, fun i a u => by omega⟩
/-- what is outside the numbers -/
theorem sta2_z (h : Ap Z C t T A B D O P O' P' Ab Be Ag Bg M) (hx : Tx c9 t T Kt N A B D Cw p O P K p' O' P' K' Ab Be Cm M) : (∀ x, Sta2 t T x → ¬ Z x ∧ C x) ∧ ¬ Sta2 t T O ∧ ¬ Sta2 t T P ∧ t + 235 < mZ M ∧ t + 236 ≤ mZ M := by
  obtain ⟨z1, z2, z3, z4, z5⟩ := h.nz
  obtain ⟨c1, c2, c3⟩ := h.oc
  have tn := (List.nodup_cons.1 h.2.1).1
  have o4 := hx.2.2.2.2.1.2.2.2.1
  have pp := hx.2.2.2.2.2.1
  clear hx
  refine ⟨fun x u => ?_, fun u => ?_, fun u => ?_, (c1 _ (by omega) (by omega)).2, (c1 (t + 235) (by omega) (by omega)).2⟩
  · rcases u with u | u
    · rw [u]; exact ⟨z1 t (by omega) (by omega), (c1 t (by omega) (by omega)).1⟩
    · rw [u]; exact ⟨z3, (c3 T (by simp)).1⟩
  · rcases u with u | u
    · omega
    · exact tn (by rw [← u]; simp)
  · rcases u with u | u
    · omega
    · exact tn (by rw [← u]; simp)
theorem c_CA_end {l : Int} (il : i32 l) (h : CI c9 C n t Ps Pc M) (hl : 0 ≤ l ∧ l ≤ 20 ∧ 20 ≤ mI M t 1) : Ci G y_CA_end d [vr t, vi l] M (fun r M' => i32 r ∧ cQ0 c9 C n t Ps Pc M M' ∧ r = mI M t 1 + (l - 20) ∧ mI M' t 1 = r ∧ xcF M M' t) := by
  obtain ⟨T, Kt, N, A, B, D, Cw, p, O, P, K, p', O', P', K', Ab, Be, Cm, U, Ag, Bg, Cg, cn, cc, bc, Ls, v, R, k, Z, hj0⟩ := h
  obtain ⟨h1, h2, h3, h4, h5, h6, h7⟩ := id hj0
  obtain ⟨⟨ta1, ta2, ta3⟩, ta4, ta5, ta6, ta9⟩ := id h2.2.1
  obtain ⟨lo1, lo2, lo3, lo4⟩ := sta2_lo h5.2.2.1.1
  obtain ⟨zc, nO, nP, zp, -⟩ := sta2_z h5 h2
  rw [ta3] at hl
  obtain ⟨N', hN, hN'⟩ : ∃ N' : Nat, ((N : Nat) : Int) + (l - 20) = ((N' : Nat) : Int) ∧ N' ≤ N := ⟨(((N : Nat) : Int) + (l - 20)).toNat, by omega, by omega⟩
  refine (s_CA_end il h1 ta1 ta3 ta6.2.1 ⟨hl.1, hl.2.1, by omega⟩).mono (fun r M' q => ?_)
  obtain ⟨q1, q2, q3⟩ := q
  have f : FI (fun x => x = t) M M' := by rw [q3]; exact FI.ui rfl
  have fc : FC (Sta2 t T) M M' := f.fc (fun _ u => Or.inl u)
  have it : ∀ i, i ≠ 1 → mI M' t i = mI M t i := fun i hi => by rw [q3, mI_UI, if_neg (fun u => hi u.2)]
  have i1 : mI M' t 1 = ((N : Nat) : Int) + (l - 20) := by rw [q3, mI_UI, if_pos ⟨rfl, rfl⟩]
  have ez : mZ M' = mZ M ∧ mS M' = mS M := ⟨f.2.2.2.2.1, f.2.2.2.2.2.1⟩
  have tap : Tap c9.1 M' t T Kt N' := by
    refine ⟨⟨by rw [f.1]; exact ta1, by rw [f.2.2.1]; exact ta2, by rw [i1]; exact hN⟩, by rw [f.1, f.2.1]; exact ta4, by rw [ez.1]; exact ta5, ⟨Nat.le_trans hN' ta6.1, Nat.le_trans hN' ta6.2.1, ta6.2.2⟩, fun j hj => ?_⟩
    rw [f.2.2.2.2.2.2 T ta5.1.symm]
    exact ta9 j (Nat.lt_of_lt_of_le hj hN')
  have tx := h2.tap q2 fc lo1 nO nP (fun i _ => by rw [f.2.2.1]) (it 6 (by decide)) tap
  obtain ⟨ns, pe, qe⟩ := h4.fc q2 fc (fun x u => (zc x u).1) lo4 lo3 zp (fun i _ => by rw [f.2.2.1]) (it 18 (by decide))
  refine ⟨by rw [q1, hN]; have := ta6.2.1; exact i32s (by clear hj0; omega) (by clear hj0; omega), ⟨C, Ps, Pc, ⟨T, Kt, N', A, B, D, Cw, p, O, P, K, p', O', P', K', Ab, Be, Cm, U, Ag, Bg, Cg, cn, cc, bc, Ls, v, R, k, Z, q2, tx, (h3.fc fc lo2).up, ns, h5.mz (by rw [ez.1]; exact Nat.le_refl _), ?_, by rw [it 6 (by decide)]; exact h7⟩, fc.mono (fun x _ u => (zc x u).2), fun x u => Or.inl u, by rw [ez.2]; exact Nat.le_refl _, by rw [ez.1]; exact Nat.le_refl _⟩, by rw [q1, ta3], by rw [i1, q1], it 7 (by decide), it 8 (by decide), fun i _ _ => f.2.2.2.2.2.2 _ (show ¬ (t + 62 + i = t) by omega), hj0.knf (by rw [f.2.2.1]) (by rw [hj0.vfc fc (fun x u => (zc x u).1)])⟩
  unfold Rmc
  rw [pe, qe]
  exact h6
/-- a tape that may be new -/
theorem Ap.tape (h : Ap Z C t T A B D O P O' P' Ab Be Ag Bg M) (hz : mZ M ≤ mZ M') (t5 : t + 236 ≤ mZ M) (e : T1 = T ∨ (mZ M ≤ T1 ∧ T1 < mZ M')) : Ap Z (Zn C M M') t T1 A B D O P O' P' Ab Be Ag Bg M' := by
  obtain ⟨c1, c2, c3⟩ := h.oc
  have nd := List.nodup_cons.1 h.2.1
  have pl := h.2.2.1
  refine h.re hz (List.nodup_cons.2 ⟨?_, nd.2⟩) ⟨by rcases e with e | e <;> omega, pl.2⟩ (fun x hx => ?_)
  · rcases e with e | e
    · rw [e]; exact nd.1
    · intro u
      have := (c3 T1 (List.mem_cons_of_mem _ u)).2
      omega
  · rcases List.mem_cons.mp hx with u | u
    · rw [u]
      rcases e with e | e
      · rw [e]; exact Or.inl (by simp)
      · exact Or.inr e
    · exact Or.inl (List.mem_cons_of_mem _ u)
/-- the room of a tape that may be new -/
theorem rmc_tape {Pn' Qn' : Nat} (h6 : Rmc Kt Cw K K' Cm Cg Ps Pc Ls k M) (pe : Pn Ls k M' = Pn Ls k M ∧ Qn Ls k M' = Qn Ls k M) (k20 : 20 ≤ Kt) (gr : (Kt' = Kt ∧ mZ M' = mZ M ∧ mS M' = mS M) ∨ (Kt' = 2 * Kt ∧ mZ M' = mZ M + 1 ∧ mS M' = mS M + 2 * Kt)) : Rmc Kt' Cw K K' Cm Cg (Ps + 2 * (Kt' - Kt)) (Pc + 4 * (Kt' - Kt)) Ls k M' ∧ mS M' + Ps ≤ mS M + (Ps + 2 * (Kt' - Kt)) ∧ 64 * mZ M' + Pc ≤ 64 * mZ M + (Pc + 4 * (Kt' - Kt)) := by
  unfold Rmc at h6 ⊢
  rw [pe.1, pe.2]
  rcases gr with g | g <;> exact ⟨⟨by omega, by omega, h6.2.2⟩, by omega, by omega⟩
theorem c_CA_feed {l1 l2 l3 l4 l5 : Int} (i1 : i32 l1) (i2 : i32 l2) (i3 : i32 l3) (i4 : i32 l4) (i5 : i32 l5) (h : CI c9 C n t Ps Pc M) : Ci G y_CA_feed (d + 2) [vr t, vi l1, vi l2, vi l3, vi l4, vi l5] M (fun r M' => i32 r ∧ ∃ c8, (cQ0 c8 C n t Ps Pc M M' ∧ xcF M M' t) ∧ ((r = -1 ∧ 16384 < mI M t 1 + 20 ∧ mI M' t 1 = mI M t 1 ∧ c8 = c9) ∨ (r = mI M t 1 + 20 ∧ mI M t 1 + 20 ≤ 16384 ∧ mI M' t 1 = r ∧ c8 = (fdc c9.1 (mI M t 1).toNat l1 l2 l3 l4 l5, c9.2)))) := by
  obtain ⟨T, Kt, N, A, B, D, Cw, p, O, P, K, p', O', P', K', Ab, Be, Cm, U, Ag, Bg, Cg, cn, cc, bc, Ls, v, R, k, Z, hj⟩ := id h
  obtain ⟨h1, h2, h3, h4, h5, h6, h7⟩ := id hj
  have tap0 := h2.2.1
  have ta3 := tap0.1.2.2
  have k20 := tap0.2.2.2.1.2.2.1
  obtain ⟨lo1, lo2, lo3, lo4⟩ := sta2_lo h5.2.2.1.1
  obtain ⟨zc, nO, nP, zp, t5⟩ := sta2_z h5 h2
  refine (s_CA_feed (d := d) i1 i2 i3 i4 i5 h1 tap0).mono (fun r M' q => ?_)
  rw [ta3]
  rcases q with ⟨q1, q2, q3⟩ | ⟨q1, q2, T', Kt', o, tap, fa, it, rt, gr⟩
  · rw [q3, ta3]
    exact ⟨by rw [q1]; exact ⟨by decide, by decide⟩, c9, ⟨h.same.1, h.same.2.2⟩, Or.inl ⟨q1, by clear hj h2 h3 h4 h5 h6; omega, rfl, rfl⟩⟩
  have fc : FC (Sta2 t T) M M' := fa.fc (fun _ u => u) (fun x u => Or.inl u)
  have tx := h2.tap o fc lo1 nO nP (fun i hi => rt i (by omega)) (it 6 (by decide)) tap
  obtain ⟨ns, pq⟩ := h4.fc o fc (fun x u => (zc x u).1) lo4 lo3 zp (fun i hi => rt i (by omega)) (it 18 (by decide))
  have Tz := tap.2.2.1.2.2
  have ap := h5.tape fc.1.1 t5 (T1 := T') (by rcases gr with g | g; exact Or.inl g.1; exact Or.inr ⟨Nat.le_of_eq g.1.symm, Tz⟩)
  obtain ⟨rm, r1, r2⟩ := rmc_tape (Pn' := 0) (Qn' := 0) h6 pq k20 (Kt' := Kt') (gr.imp (fun g => g.2) (fun g => g.2))
  exact ⟨by rw [q1]; exact i32s (by clear hj h2 h3 h4 h5 h6; omega) (by clear hj h2 h3 h4 h5 h6; omega), (fdc c9.1 N l1 l2 l3 l4 l5, c9.2), ⟨⟨Zn C M M', _, _, ⟨T', Kt', N + 20, A, B, D, Cw, p, O, P, K, p', O', P', K', Ab, Be, Cm, U, Ag, Bg, Cg, cn, cc, bc, Ls, v, R, k, Z, o, tx, (h3.fc fc lo2).up, ns, ap, rm, by rw [it 6 (by decide)]; exact h7⟩, fc.mono (fun x _ u => (zc x u).2), fun x u => u, r1, r2⟩, it 7 (by decide), it 8 (by decide), fun i hi _ => (fc.sm (by clear hj h2 h3 h4 h5 h6 ns tx; omega) (lo2 _ (by omega) (by omega))).2.2.2, hj.knf (rt 11 (by omega)) (by rw [hj.vfc fc (fun x u => (zc x u).1)])⟩, Or.inr ⟨by rw [q1]; clear hj h2 h3 h4 h5 h6; omega, by clear hj h2 h3 h4 h5 h6; omega, by rw [tap.1.2.2, q1], by rw [Int.toNat_natCast]⟩⟩
end NCW
end
section
/-! The class at rest: steps of its numbers. -/
section NCX
variable {G : mG} {d t x n g s b cn cc bc T Kt N A B D Cw p O P K p' O' P' K' Ab Be Cm U Ag Bg Cg Ps Pc : Nat} {M M' M1 : mM} {Z Y C Tn Cm' : Nat → Prop} {v v' R k Rn kn : Nat → Nat} {Ls L L' : List Nat} {W : Nat → Nat} {r : Prop} {c9 c8 : tG9}
theorem stb_ne (h : Stb s x) : x ≠ s + 1 := by unfold Stb at h; omega
theorem gi_ne {i : Nat} (h : g + 22 < s) (hi : i ≤ 9) : g + i ≠ s + 1 := by omega
theorem re_ne {i : Nat} : s + 31 + i ≠ s + 1 := by omega
/-- the Solver under a step of numbers -/
theorem Sb.nx (h : Sb L W s g cn cc bc M) (q : NX L W Tn Cm' False (s + 1) M M') (hg : ∀ i, i ≤ 9 → ¬ Cm' (g + i)) : Sb L W s g cn cc bc M' := by
  obtain ⟨⟨o, ⟨⟨a1, a2⟩, a3, a4, a5⟩, ⟨b1, b2, b3, b4⟩, ⟨b5, b6⟩, gt⟩, ⟨hF, hSK, ⟨⟨c0, c1, c2, c3⟩, c4, c5, c6⟩, hf⟩, hSt, hgo⟩ := h
  have st : ∀ x, Stb s x → mK M' x = mK M x ∧ mN M' x = mN M x ∧ mR M' x = mR M x := fun x hx => by
    have := q.oth (hSt x hx) (stb_ne hx)
    exact ⟨this.1, this.2.1, this.2.2.1⟩
  have go : ∀ i, i ≤ 9 → mK M' (g + i) = mK M (g + i) ∧ mN M' (g + i) = mN M (g + i) ∧ mR M' (g + i) = mR M (g + i) ∧ mI M' (g + i) = mI M (g + i) := fun i hi => by
    have := q.oth (hgo i hi) (gi_ne a2 hi)
    exact ⟨this.1, this.2.1, this.2.2.1, this.2.2.2 (hg i hi)⟩
  have re : ∀ i, i ≤ 6 → mK M' (s + 31 + i) = mK M (s + 31 + i) ∧ mN M' (s + 31 + i) = mN M (s + 31 + i) ∧ mR M' (s + 31 + i) = mR M (s + 31 + i) := fun i hi => by
    have := q.oth (c4 i hi) re_ne
    exact ⟨this.1, this.2.1, this.2.2.1⟩
  have e0 := st s (Or.inl rfl)
  have e29 := st (s + 29) (Or.inr (Or.inl rfl))
  have e30 := st (s + 30) (Or.inr (Or.inr (Or.inl rfl)))
  have e122 := st (s + 122) (Or.inr (Or.inr (Or.inr (Or.inl rfl))))
  have e123 := st (s + 123) (Or.inr (Or.inr (Or.inr (Or.inr (Or.inl rfl)))))
  have e124 := st (s + 124) (Or.inr (Or.inr (Or.inr (Or.inr (Or.inr (Or.inl rfl))))))
  have e125 := st (s + 125) (Or.inr (Or.inr (Or.inr (Or.inr (Or.inr (Or.inr (Or.inl rfl)))))))
  have e126 := st (s + 126) (Or.inr (Or.inr (Or.inr (Or.inr (Or.inr (Or.inr (Or.inr (Or.inl rfl))))))))
  have e128 := st (s + 128) (Or.inr (Or.inr (Or.inr (Or.inr (Or.inr (Or.inr (Or.inr (Or.inr (Or.inl rfl)))))))))
  have e129 := st (s + 129) (Or.inr (Or.inr (Or.inr (Or.inr (Or.inr (Or.inr (Or.inr (Or.inr (Or.inr rfl)))))))))
  have g0 := go 0 (by decide)
  rw [Nat.add_zero] at g0
  have r0 := re 0 (by decide)
  rw [Nat.add_zero] at r0
  have r1 := re 1 (by decide)
  have r2 := re 2 (by decide)
  have r3 := re 3 (by decide)
  have r4 := re 4 (by decide)
  have r5 := re 5 (by decide)
  have r6 := re 6 (by decide)
  refine ⟨⟨q.ok, ⟨⟨by rw [e0.1]; exact a1, a2⟩, by rw [e0.2.2]; exact a3, by rw [e29.1, e30.1, e122.1, e123.1, e124.1, e125.1, e126.1, e128.1, e129.1]; exact a4, by rw [e29.2.1, e30.2.1, e122.2.1, e123.2.1, e124.2.1, e125.2.1, e126.2.1, e128.2.1, e129.2.1]; exact a5⟩, ⟨by rw [g0.1]; exact b1, by rw [g0.2.2.1]; exact b2, fun i i1 i2 => by rw [(go i i2).1]; exact b3 i i1 i2, by rw [(go 2 (by decide)).2.1, (go 4 (by decide)).2.1, (go 6 (by decide)).2.1, (go 7 (by decide)).2.1, (go 8 (by decide)).2.1, (go 9 (by decide)).2.1]; exact b4⟩, ⟨by rw [g0.2.2.1]; exact b5, by rw [(go 3 (by decide)).2.1]; exact b6⟩, gt.same (fun i hi => (go i hi).2.2.2)⟩, ⟨q.nf, q.sk hF hSK, ⟨⟨by rw [r0.1]; exact c0, by rw [r0.2.2]; exact c1, by rw [r1.1, r2.1, r3.1, r4.1, r5.1, r6.1]; exact c2, by rw [r1.2.1, r2.2.1, r3.2.1, r4.2.1, r5.2.1, r6.2.1]; exact c3⟩, fun i hi => q.oc hF (c4 i hi), fun i hi => by rw [r2.2.2]; exact c5 i hi, c6⟩, (q.frl hF hf).1⟩, fun x hx => q.oc hF (hSt x hx), fun i hi => q.oc hF (hgo i hi)⟩
/-- a step of numbers that touches no table -/
theorem Nms.nxg (h : Nms L W s g b cn cc bc v R k M) (q : NX L W Tn Cm' False (s + 1) M M') (hT : ∀ x, Tn x → x < b) (hC : ∀ x, Cm' x → x < b) (hv : ∀ j, j < 4 → ¬ Cm' (v j)) (hg : ∀ i, i ≤ 9 → ¬ Cm' (g + i)) : Nms L W s g b cn cc bc v R k M' ∧ ∀ j, j < 4 → mI M' (v j) = mI M (v j) := by
  obtain ⟨sb, tb, ⟨b1, b2⟩, tk⟩ := h
  have hF := sb.2.1.1
  refine ⟨⟨sb.nx q hg, tb.nx q hF, ⟨b1, Nat.le_trans b2 q.2.2.1.1.1⟩, fun j hj j2 => (tk j hj j2).nx (tb.1 j hj) q hF (hv j hj) (fun l hl => ?_)⟩, fun j hj => (q.oth (tb.1 j hj).1.2.2.2.2.1.1 (by have := (tb.1 j hj).2.2.2.2.1; omega)).2.2.2 (hv j hj)⟩
  have bl := (tb.1 j hj).2.1 l hl
  exact ⟨fun u => by have := hT _ u; omega, fun u => by have := hT _ u; omega, fun u => by have := hC _ u; omega⟩
theorem NX.cnu (q : NX L W Tn Cm' r (s + 1) M M') (hF : NF L W M) (hc : Cnu Z L s v R k M) (tb : Tb0 L M s b v R k) : Cnu (Zn Z M M') L s v R k M' ∧ FC (fun x => Z x ∨ Cm' x) M M' := by
  have hc' : Cnu (fun x => Z x ∨ Cm' x) L s v R k M := hc.cg (fun x u => Or.inl u)
  refine ⟨?_, (q.fc hF hc' tb (fun x u => Or.inr u)).1⟩
  obtain ⟨c1, c2, c3, c4, c5, c6⟩ := hc
  refine ⟨fun x a1 a2 => Or.inl (c1 x a1 a2), fun a ha => ⟨Or.inl (c2 a ha).1, ?_⟩, fun i hi => ⟨Or.inl (c3 i hi).1, Or.inl (c3 i hi).2.1, fun j hj => ?_⟩, Or.inl c4, c5.nx q hF c6, q.oc hF c6⟩
  · by_cases c : Tn a
    · rcases q.2.2.2.1 a c with e | e
      · rw [e]; exact Or.inl (c2 a ha).2
      · exact Or.inr ⟨e, (q.nf.lt ha).2⟩
    · rw [(q.num hF ha c).1]; exact Or.inl (c2 a ha).2
  · rw [((tb.1 i hi).nx q hF).2]; exact Or.inl ((c3 i hi).2.2 j hj)
/-- the cells that a call about numbers may change -/
def Yn (Z : Nat → Prop) (t x : Nat) : Prop := Z x ∨ x = t ∨ x = t + 235
theorem yn_lo (h : Ap Z C t T A B D O P O' P' Ab Be Ag Bg M) (hx : Tx c9 t T Kt N A B D Cw p O P K p' O' P' K' Ab Be Cm M) : (∀ x, t + 2 ≤ x → x < t + 62 → ¬ Yn Z t x) ∧ (∀ x, t + 62 ≤ x → x < t + 85 → ¬ Yn Z t x) ∧ (¬ Yn Z t T ∧ ¬ Yn Z t O ∧ ¬ Yn Z t P) ∧ ∀ x, Yn Z t x → C x := by
  obtain ⟨z1, z2, z3, z4, z5⟩ := h.nz
  obtain ⟨c1, c2, c3⟩ := h.oc
  have o4 := hx.2.2.2.2.1.2.2.2.1
  have pp := hx.2.2.2.2.2.1
  have pT := h.2.2.1.1
  clear hx
  have nn : ∀ x, ¬ Z x → x ≠ t → x ≠ t + 235 → ¬ Yn Z t x := fun x a b c u => u.elim a (fun u => u.elim b c)
  refine ⟨fun x a b => nn x (z1 x (by omega) (by omega)) (by omega) (by omega), fun x a b => nn x (z1 x (by omega) (by omega)) (by omega) (by omega), ⟨nn T z3 (by omega) (by omega), nn O z4 (by omega) (by omega), nn P z5 (by omega) (by omega)⟩, fun x u => ?_⟩
  rcases u with u | u | u
  · exact (c2 x u).1
  · rw [u]; exact (c1 t (by omega) (by omega)).1
  · rw [u]; exact (c1 _ (by omega) (by omega)).1
/-- a step of numbers, in the class -/
theorem CJ.num (hj : CJ c9 C n t Ps Pc T Kt N A B D Cw p O P K p' O' P' K' Ab Be Cm U Ag Bg Cg cn cc bc Ls v R k Z M) (o : mOk M') (f : FC (Yn Z t) M M') (hr : ∀ i, i ≤ 5 → mR M' t i = mR M t i) (i1 : mI M' t 1 = mI M t 1) (i6 : mI M' t 6 = mI M t 6) (i7 : mI M' t 7 = mI M t 7) (i8 : mI M' t 8 = mI M t 8) (ns : Ns (Zn Z M M') t L' v' Rn kn cn cc bc M') (rq : Rq Ls k M L' kn M') : cQ0 c9 C n t Ps Pc M M' ∧ sE0 M M' t := by
  obtain ⟨h1, h2, h3, h4, h5, h6, h7⟩ := hj
  obtain ⟨y1, y2, ⟨y3, y4, y5⟩, y6⟩ := yn_lo h5 h2
  have tx := h2.fc o f y1 y3 y4 y5 hr i1 i6
  refine ⟨⟨Zn C M M', Ps + Pn L' kn M' - Pn Ls k M, Pc + 64 * Qn L' kn M' - 64 * Qn Ls k M, ⟨T, Kt, N, A, B, D, Cw, p, O, P, K, p', O', P', K', Ab, Be, Cm, U, Ag, Bg, Cg, cn, cc, bc, L', v', Rn, kn, Zn Z M M', o, tx, (h3.fc f y2).up, ns, h5.zn f.1.1, ?_, by rw [i6]; exact h7⟩, f.mono (fun x _ u => y6 x u), fun x u => u, ?_, ?_⟩, i1, i7, i8, fun i hi _ => (f.sm (by have := h3.2.1.2.2.2.2.2.2.1.1; clear h2 h4 h5 h6 tx ns; omega) (y2 _ (by omega) (by omega))).2.2.2⟩
  · clear tx ns h2 h3 h4 h5 f
    obtain ⟨r1, r2, r3, -⟩ := rq
    unfold Rmc at h6 ⊢
    exact ⟨by omega, by omega, by omega⟩
  · clear tx ns h2 h3 h4 h5 f
    obtain ⟨r1, r2, r3, -⟩ := rq
    unfold Rmc at h6
    omega
  · clear tx ns h2 h3 h4 h5 f
    obtain ⟨r1, r2, r3, -⟩ := rq
    unfold Rmc at h6
    omega
/-- the numbers' side after a step that leaves the top and what is printed -/
theorem Ns.step (h : Ns Z t Ls v R k cn cc bc M) (nz : ¬ Z t ∧ ¬ Z (t + 235)) (zp : t + 235 < mZ M) (f : FC Z M M') (nm : Nms L' (Wt t) (t + 85) (t + 62) (t + 236) cn cc bc v Rn kn M') (cn' : Cnu (Zn Z M M') L' (t + 85) v Rn kn M') (f2 : mI M' (v 2) 1 = 0) (ch : mI M' (v 0) 1 ≠ 0 → Chs M' (t + 85) (t + 62) cn) (rq : Rq Ls k M L' kn M') : Ns (Zn Z M M') t L' v Rn kn cn cc bc M' := by
  obtain ⟨h1, h2, h3, h4, h5, ⟨h6, h6', h6z⟩, h7, h8⟩ := h
  obtain ⟨tr, ti⟩ := h3.fc f nz.1
  have sp := f.sm zp nz.2
  exact ⟨nm, cn', tr, f2, ch, ⟨rq.2.2.2.1 _ h6, rq.2.2.2.2 _ h6', Or.inl h6z⟩, by unfold Pch; rw [sp.1, sp.2.1, sp.2.2.2]; exact h7, by rw [ti]; exact h8⟩
theorem FC.yn (f : FC Z M M') : FC (Yn Z t) M M' := f.mono (fun x _ u => Or.inl u)
end NCX
end
