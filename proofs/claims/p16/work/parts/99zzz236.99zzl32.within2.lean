/-! The class's top: within. -/
section NCS
variable {G : mG} {d t b i j a Ra n cn cc bc z w : Nat} {v v0 R k k0 Rn kn : Nat → Nat} {M M0 M' M1 : mM} {L L0 L' L1 : List Nat} {W : Nat → Nat} {T C S Z : Nat → Prop} {r : Prop}
/-- within on its way: the tables 1 and 2 may have changed places -/
def wnI (Z : Nat → Prop) (L0 : List Nat) (W : Nat → Nat) (t b cn cc bc : Nat) (v0 k0 : Nat → Nat) (M0 : mM) (v : Nat → Nat) (L : List Nat) (R k : Nat → Nat) (M : mM) : Prop := Nms L W (t + 85) (t + 62) b cn cc bc v R k M ∧ Tr t v M ∧ (v = v0 ∨ v = fun i => v0 (sg i)) ∧ FC (fun x => Z x ∨ x = t) M0 M ∧ Cnu (Zn Z M0 M) L (t + 85) v R k M ∧ Rq L0 k0 M0 L k M ∧ ((∀ j, j ≤ 9 → mI M (t + 62 + j) = mI M0 (t + 62 + j)) ∧ mI M t = mI M0 t ∧ mI M (v0 0) = mI M0 (v0 0) ∧ mI M (v0 3) = mI M0 (v0 3) ∧ mI M (t + 85 + 30) = mI M0 (t + 85 + 30)) ∧ mI M (v 2) 1 = 0 ∧ ∀ i, i ≠ 12 → i ≠ 13 → mR M t i = mR M0 t i
/-- what one more move makes, told by the tables -/
theorem wi_nx {g : Nat} {Rb m : Nat} (hG : GTT M g cn cc bc) (hv : ∀ j, j < cn → rwv M Rb j = wi9 (xtm M g cn) m j) : nxH M g Rb cn (wi9 (xtm M g cn) (m + 1)) := fun j hj => by
  have gt : (xtm M g cn)[j]? = some (stm M g j) := by rw [xtm_map, rget, if_pos hj]
  have e1 : wi9 (xtm M g cn) (m + 1) j = stv9 (wi9 (xtm M g cn) m) (stm M g j) := by
    show (((xtm M g cn)[j]?).map (fun y => stv9 (wi9 (xtm M g cn) m) y)).getD 0 = _
    rw [gt]
    rfl
  refine ⟨fun u => ?_, fun x y u1 u2 u3 => ?_⟩
  · have l0 : (stm M g j).2.length = 0 := by
      show (cml M g (mI M (g + 4) j).toNat ((mI M (g + 4) (j + 1)).toNat - (mI M (g + 4) j).toNat)).length = 0
      rw [cml_map, List.length_map, List.length_range, u]
      omega
    have e2 : stv9 (wi9 (xtm M g cn) m) (stm M g j) = if mI M (g + 2) j = 3 then 1 else 0 := by
      unfold stv9
      rw [l0]
      rfl
    rw [e1, e2, hv j hj]
    cases m with
    | zero =>
      show _ = (((xtm M g cn)[j]?).map (fun y => if y.1 = 3 then (1 : Rat) else 0)).getD 0
      rw [gt]
      rfl
    | succ m =>
      show _ = (((xtm M g cn)[j]?).map (fun y => stv9 (wi9 (xtm M g cn) m) y)).getD 0
      rw [gt]
      show _ = stv9 (wi9 (xtm M g cn) m) (stm M g j)
      unfold stv9
      rw [l0]
      rfl
  · obtain ⟨x', y', g1, g2, g3, g4⟩ := hG.2.2.1 j hj
    have ll : (stm M g j).2 = cml M g x (y - x) := by
      unfold stm
      rw [u1, u2, Int.toNat_natCast, Int.toNat_natCast]
    have ln : (stm M g j).2.length = (y - 1 - x) + 1 := by
      rw [ll, cml_map, List.length_map, List.length_range]
      omega
    have e2 : stv9 (wi9 (xtm M g cn) m) (stm M g j) = bst9 (mI M (g + 2) j = 1) (fun i => wr9 (wi9 (xtm M g cn) m) (cq0 (stm M g j) i)) (y - 1 - x) := by
      unfold stv9
      rw [ln]
      rfl
    rw [e1, e2]
    refine bst_cg _ (fun i hi => ?_)
    have ec : cq0 (stm M g j) i = cmm M g (x + i) := cq0_of (by rw [ll, cml_map, rget, if_pos (by omega)])
    rw [ec]
    exact wr_cg (fun b hb => (hv _ (cmm_lt (hG.2.1 (x + i) (by omega)) b hb)).symm)
theorem cml_same {g x n : Nat} (e : ∀ i, i ≤ 9 → mI M' (g + i) = mI M (g + i)) : cml M' g x n = cml M g x n := by
  have f : (fun t => cmm M' g (x + t)) = (fun t => cmm M g (x + t)) := funext (fun t => cmm_same e)
  rw [cml_map, cml_map, f]
theorem xtm_same {g : Nat} (e : ∀ i, i ≤ 9 → mI M' (g + i) = mI M (g + i)) : xtm M' g cn = xtm M g cn := by
  have f : stm M' g = stm M g := by
    funext j
    unfold stm
    rw [e 2 (by decide), e 4 (by decide), cml_same e]
  rw [xtm_map, xtm_map, f]
theorem xtm_len {g : Nat} : (xtm M g cn).length = cn := by rw [xtm_map, List.length_map, List.length_range]
def wnQ (Z : Nat → Prop) (L0 : List Nat) (W : Nat → Nat) (t b cn cc bc : Nat) (v0 k0 : Nat → Nat) (n : Nat) (M0 : mM) (x : Int) (M : mM) : Prop := (i32 x ∧ anA9 (xtm M0 (t + 62) cn) n x) ∧ ∃ v L R k, wnI Z L0 W t b cn cc bc v0 k0 M0 v L R k M
theorem rsm17 (h : Rsm M Ra cn 16) : Rsm M Ra cn 17 := fun l hl => by
  obtain ⟨a1, a2, a3⟩ := h l hl
  have p : (2 : Int) ^ (30 * 16) ≤ 2 ^ (30 * 17) := by decide +kernel
  exact ⟨a1, Int.lt_of_lt_of_le a2 p, Int.lt_of_lt_of_le a3 p⟩
theorem vsw (hv : v = v0 ∨ v = fun i => v0 (sg i)) : (v 0 = v0 0 ∧ v 3 = v0 3) ∧ ((fun i => v (sg i)) = v0 ∨ (fun i => v (sg i)) = fun i => v0 (sg i)) := by
  rcases hv with e | e
  · subst e
    exact ⟨⟨rfl, rfl⟩, Or.inr rfl⟩
  · subst e
    refine ⟨⟨rfl, rfl⟩, Or.inl ?_⟩
    funext i
    show v0 (sg (sg i)) = v0 i
    congr 1
    unfold sg
    by_cases c1 : i = 1
    · rw [if_pos c1, if_neg (by decide), if_pos rfl, c1]
    · rw [if_neg c1]
      by_cases c2 : i = 2
      · rw [if_pos c2, if_pos rfl, c2]
      · rw [if_neg c2, if_neg c1, if_neg c2]
theorem zn_no {x : Nat} (nz : ¬ Z x) (hx : x < mZ M) : ¬ Zn Z M M' x := fun u => u.elim nz (fun u => by omega)
/-- a step of numbers in within -/
theorem wnI.mv {n9 : Nat → Rat} {x : Int} (h : wnI Z L0 W t b cn cc bc v0 k0 M0 v L R k M) (nz : ¬ Z t) (tz : t < mZ M0) (f1 : mI M (v 1) 1 = 0) (q : mvR (Zn Z M0 M) L W (t + 85) (t + 62) b cn cc bc v k n9 M x M') : ∃ L' Rn kn, wnI Z L0 W t b cn cc bc v0 k0 M0 v L' Rn kn M' ∧ mI M' (v 1) 1 = 0 ∧ (x ≠ 0 → cn ≤ kn 1 ∧ Rok M' (Rn 1) cn ∧ ∀ j, j < cn → rwv M' (Rn 1) j = n9 j ∧ ft9 (n9 j)) ∧ (x = 0 → ∃ j, j < cn ∧ ¬ ft9 (n9 j)) := by
  obtain ⟨h1, h2, h3, h4, h5, h6, ⟨h7, h8, h9, h10, h11⟩, h12, h14⟩ := h
  obtain ⟨-, L', Rn, kn, q1, q2, q3, q4, q5, q6, q7⟩ := q
  obtain ⟨⟨v00, v03⟩, -⟩ := vsw h3
  have nt : ¬ Zn Z M0 M t := zn_no nz tz
  obtain ⟨r1, r2⟩ := h2.fc q2.1 nt
  have rt : mR M' t = mR M t := ((q2.1.2 t h2.2.2.2.2).2.2 nt).2.1
  have f' : FC (Zn (fun x => Z x ∨ x = t) M0 M) M M' := q2.1.mono (fun x _ u => u.elim (fun u => Or.inl (Or.inl u)) Or.inr)
  refine ⟨L', Rn, kn, ⟨q1, r1, h3, h4.trans f', q2.2.cg (fun x u => (Zn.trans h4.1.1 q2.1.1.1).mp u), h6.trans q3, ⟨fun j hj => by rw [q4 j hj, h7 j hj], by rw [r2, h8], by rw [← v00, q5 0 (by decide), v00, h9], by rw [← v03, q5 3 (by decide), v03, h10], by rw [q6, h11]⟩, by rw [q5 2 (by decide)]; exact h12, fun i a b => by rw [rt]; exact h14 i a b⟩, by rw [q5 1 (by decide)]; exact f1, q7⟩
/-- the tables change places -/
theorem wnI.sw {M31 : mM} (h : wnI Z L0 W t b cn cc bc v0 k0 M0 v L R k M) (nz : ¬ Z t) (tz : t < mZ M0) (f1 : mI M (v 1) 1 = 0) (e1 : M31 = mUR M t 12 (mR M t 13)) (e2 : M' = mUR M31 t 13 (mR M t 12)) : wnI Z L0 W t b cn cc bc v0 k0 M0 (fun i => v (sg i)) L (fun i => R (sg i)) (fun i => k (sg i)) M' ∧ mI M' (v 2) 1 = 0 ∧ mI M' = mI M ∧ (∀ a, a ∈ L → nv M' a = nv M a) ∧ (mR M' (R 1) = mR M (R 1)) := by
  obtain ⟨h1, h2, h3, h4, h5, h6, ⟨h7, h8, h9, h10, h11⟩, h12, h14⟩ := h
  obtain ⟨-, hv⟩ := vsw h3
  have nt : ¬ Zn Z M0 M t := zn_no nz tz
  have eI : mI M' = mI M := by rw [e2, mI_UR, e1, mI_UR]
  have o' : mOk M' := by rw [e2]; refine mOk_UR ?_; rw [e1]; exact mOk_UR h1.cnt.2.2.2
  have z' : mZ M' = mZ M ∧ mS M' = mS M := by rw [e2, mZ_UR, mS_UR, e1, mZ_UR, mS_UR]; exact ⟨rfl, rfl⟩
  have rr : ∀ x i, mR M' x i = if x = t ∧ i = 13 then mR M t 12 else if x = t ∧ i = 12 then mR M t 13 else mR M x i := fun x i => by rw [e2, mR_UR, e1, mR_UR]
  have f : FC (fun x => x = t) M M' := by
    refine ⟨⟨by rw [z'.1]; exact Nat.le_refl _, by rw [z'.2]; exact Nat.le_refl _⟩, fun x _ => ⟨by rw [e2, mK_UR, e1, mK_UR], by rw [e2, mN_UR, e1, mN_UR], fun nx => ⟨by rw [e2, mL_UR, e1, mL_UR], ?_, by rw [eI]⟩⟩⟩
    funext i
    rw [rr, if_neg (fun u => nx u.1), if_neg (fun u => nx u.1)]
  have no : ∀ x, Zm L (t + 85) v R k M x → ¬ x = t := fun x u e => nt (by rw [← e]; exact zm_in h5 x u)
  obtain ⟨N, ks, cps⟩ := h1.off f o' no (fun i hi => by omega)
  have N' := N.sw (by rw [eI]; exact h12)
  obtain ⟨t1, ⟨t2, t3⟩, ⟨t4, t5, t6, t7⟩, ⟨t8, t9, t10⟩, t11⟩ := h2
  have rt : ∀ i, i ≠ 12 → i ≠ 13 → mR M' t i = mR M t i := fun i a b => by rw [rr, if_neg (fun u => b u.2), if_neg (fun u => a u.2)]
  have ecp := pn_cg (k := k) cps
  have sw1 := Pn.sw (L := L) (k := k) (M := M')
  have rq : Rq L k M L (fun i => k (sg i)) M' := by
    unfold Rq
    rw [sw1.1, sw1.2.1, ecp.1, ecp.2, z'.1, z'.2, sw1.2.2]
    exact ⟨Nat.le_refl _, Nat.le_refl _, Nat.le_refl _, fun _ u => u, fun x u => u.sm (f.sm u.1.2.2 (fun e => by have k1 := u.1.1; rw [e, t1] at k1; omega)) f.1.1⟩
  refine ⟨⟨N', ⟨by rw [(f.2 t t11).1]; exact t1, ⟨by rw [rt 9 (by decide) (by decide)]; exact t2, by rw [rt 10 (by decide) (by decide)]; exact t3⟩, ⟨by rw [rt 11 (by decide) (by decide)]; exact t4, ?_, ?_, by rw [rt 14 (by decide) (by decide)]; exact t7⟩, ⟨by rw [rt 15 (by decide) (by decide)]; exact t8, by rw [rt 16 (by decide) (by decide)]; exact t9, by rw [rt 17 (by decide) (by decide)]; exact t10⟩, by rw [z'.1]; exact t11⟩, hv, h4.trans (f.mono (fun x _ u => Or.inl (Or.inr u))), ?_, h6.trans rq, ⟨fun j hj => by rw [eI]; exact h7 j hj, by rw [eI]; exact h8, by rw [eI]; exact h9, by rw [eI]; exact h10, by rw [eI]; exact h11⟩, by rw [eI]; exact f1, fun i a b => by rw [rt i a b]; exact h14 i a b⟩, by rw [eI]; exact h12, eI, fun a ha => (h1.1.2.1.1.sm ks.2.2.1 ks.1).2 a ha |>.1, ?_⟩
  · rw [rr, if_neg (fun u => absurd u.2 (by decide)), if_pos ⟨rfl, rfl⟩]; exact t6
  · rw [rr, if_pos ⟨rfl, rfl⟩]; exact t5
  · have c := (ks.cnu f h5).sw
    have : Zn Z M0 M' = Zn Z M0 M := by funext x; unfold Zn; rw [z'.1]
    rw [this]
    exact c
  · exact (ks.2.2.2 1 (by decide)).2.1.2.2.1
theorem s_wi57 {l : Nat} (hl : l ≤ 32) (nz : ¬ Z t) (tz : t < mZ M0) (hWr : ∀ x, b ≤ x → 17 ≤ W x ∧ W x ≤ 20000) (hWs : ∀ x, t + 85 ≤ x → x ≤ t + 85 + 134 → 300 ≤ W x) : ∀ (u m : Nat) (v : Nat → Nat) (L : List Nat) (R k : Nat → Nat) (M : mM), l ≤ m + u → m ≤ l → wnI Z L0 W t b cn cc bc v0 k0 M0 v L R k M → mI M (v 1) 1 = 0 → cn ≤ k 1 → Rok M (R 1) cn → (∀ j, j < cn → rwv M (R 1) j = wi9 (xtm M0 (t + 62) cn) m j) → (∀ r, r ≤ m → ∀ j, j < cn → ft9 (wi9 (xtm M0 (t + 62) cn) r j)) → h_CA_within_57 G (d + 8) t l m M (wnQ Z L0 W t b cn cc bc v0 k0 l M0) := by
  intro u
  have fin : ∀ {v : Nat → Nat} {L : List Nat} {R k : Nat → Nat} {M M28 : mM}, wnI Z L0 W t b cn cc bc v0 k0 M0 v L R k M → cn ≤ k 1 → Rok M (R 1) cn → (∀ r, r ≤ l → ∀ j, j < cn → ft9 (wi9 (xtm M0 (t + 62) cn) r j)) → M28 = mUI M (v 1) 1 1 → wnQ Z L0 W t b cn cc bc v0 k0 l M0 0 M28 := fun {v L R k M M28} h ck ro ff e => by
    obtain ⟨h1, h2, h3, h4, h5, h6, ⟨h7, h8, h9, h10, h11⟩, h12, h14⟩ := h
    obtain ⟨⟨v00, v03⟩, -⟩ := vsw h3
    obtain ⟨N, f, o⟩ := h1.mark (i := 1) (by decide) ⟨ck, rsm17 ro.1, ro.2.2⟩ e
    have tb := h1.2.1
    have zv : Zn Z M0 M (v 1) := (h5.2.2.1 1 (by decide)).1
    have ne : ∀ x, x ≠ v 1 → mI M28 x = mI M x := fun x hx => f.2.2.2.2.2.2 x hx
    have v1b := (tb.1 1 (by decide)).2.2.2.2.1
    have F := f.fc (Z := Zn (fun x => Z x ∨ x = t) M0 M) (fun x u => by rw [u]; exact zv.elim (fun u => Or.inl (Or.inl u)) Or.inr)
    have tv : t ≠ v 1 := fun e => zn_no nz tz (by rw [e]; exact zv)
    have z' : mZ M28 = mZ M := f.2.2.2.2.1
    refine ⟨⟨⟨by decide, by decide⟩, Or.inl ⟨rfl, fun r hr j hj => ff r hr j (by rw [xtm_len] at hj; exact hj)⟩⟩, v, L, R, k, N, ?_, h3, h4.trans F, ?_, h6.trans f.rq, ⟨fun j hj => ?_, by rw [ne t tv]; exact h8, ?_, ?_, by rw [ne _ (by omega)]; exact h11⟩, ?_, fun i a b => by rw [f.2.2.1]; exact h14 i a b⟩
    · obtain ⟨t1, t2, t3, t4, t5⟩ := h2
      exact ⟨by rw [f.1]; exact t1, by rw [f.2.2.1]; exact t2, by rw [f.2.2.1]; exact t3, by rw [f.2.2.1]; exact t4, by rw [z']; exact t5⟩
    · have c := f.cnu h5
      refine c.cg (fun x u => ?_)
      rcases u with u | u
      · unfold Zn at u ⊢; rw [z']; exact u
      · omega
    · rw [ne _ (fun e => by
        have := h1.1.2.2.2 j hj
        have kv := (tb.1 1 (by decide)).1.1
        have gk := h1.1.1.2.2.1
        by_cases c : j = 0
        · subst c
          rw [Nat.add_zero] at e
          rw [← e, gk.1] at kv
          omega
        · have := gk.2.2.1 j (by omega) hj
          rw [e, kv] at this
          omega)]
      exact h7 j hj
    · rw [← v00, ne _ (tb.2 0 1 (by decide) (by decide) (by decide)).2.1, v00]; exact h9
    · rw [← v03, ne _ (tb.2 3 1 (by decide) (by decide) (by decide)).2.1, v03]; exact h10
    · rw [ne _ (tb.2 2 1 (by decide) (by decide) (by decide)).2.1]; exact h12
  induction u with
  | zero =>
    intro m v L R k M hu hm h f1 ck ro hv9 ff
    have o := h.1.cnt.2.2.2
    refine k_CA_within_57 o (i32s (by omega) (by omega)) (i32s (by omega) (by omega)) ⟨fun _ => ?_, fun w => absurd (by omega) w⟩
    rw [h.2.1.2.2.1.2.1]
    exact ⟨h.2.1.1, (h.1.2.1.1 1 (by decide)).1.1, fun M28 e => fin h ck ro (fun r hr => ff r (by omega)) e⟩
  | succ u ih =>
    intro m v L R k M hu hm h f1 ck ro hv9 ff
    have o := h.1.cnt.2.2.2
    have r12 := h.2.1.2.2.1.2.1
    refine k_CA_within_57 o (i32s (by omega) (by omega)) (i32s (by omega) (by omega)) ⟨fun w => ?_, fun w => ⟨h.2.1.1, fun M31 e31 M33 e33 => ?_⟩⟩
    · rw [r12]
      exact ⟨h.2.1.1, (h.1.2.1.1 1 (by decide)).1.1, fun M28 e => fin h ck ro (fun r hr => ff r (by omega)) e⟩
    obtain ⟨h', f2, eI, nvs, eR⟩ := h.sw nz tz f1 e31 e33
    have r' := h'.2.1
    have s0 := h'.1.1.1.2.1
    rw [r'.2.1.2, r'.2.1.1, r'.2.2.1.2.1, r12, s0.2.1.1]
    have fl := (h.1.2.1.1 1 (by decide)).1.2.2.2.2.2
    have ro' : Rok M33 (R 1) cn := ro.cg eR (fun i hi => ⟨nvs _ (fl i (by omega)).2.1, nvs _ (fl i (by omega)).2.2, by rw [eI]⟩)
    have ex : xtm M33 (t + 62) cn = xtm M0 (t + 62) cn := xtm_same (fun i hi => h'.2.2.2.2.2.2.1.1 i hi)
    have hv33 : ∀ j, j < cn → rwv M33 (R 1) j = wi9 (xtm M33 (t + 62) cn) m j := fun j hj => by
      rw [ex, ← hv9 j hj]
      exact rwv_cg eR (nvs _ (fl j (by omega)).2.1) (nvs _ (fl j (by omega)).2.2)
    have hn33 := wi_nx (m := m) h'.1.1.1.2.2.2.2 hv33
    rw [ex] at hn33
    refine ⟨s0.1.1, h'.1.1.2.1.2.1.1.1, (n_move (d := d) (R := fun i => R (sg i)) hn33 h'.1 h'.2.2.2.2.1 f2 ck ro' hWr hWs).mono (fun x M37 q => ?_)⟩
    have x01 := q.1
    obtain ⟨L', Rn, kn, I', f1', hx, hx0⟩ := h'.mv nz tz f2 q
    refine ⟨m_b32 x01, I'.1.cnt.2.2.2, fun c => ⟨⟨⟨by decide, by decide⟩, Or.inr ⟨rfl, m + 1, by omega, ?_⟩⟩, _, L', Rn, kn, I'⟩, fun c => ?_⟩
    · obtain ⟨j, hj, nf⟩ := hx0 c
      exact ⟨j, by rw [xtm_len]; exact hj, nf⟩
    obtain ⟨ck', ro'', vv⟩ := hx c
    rw [show ((m : Int) + 1) = ((m + 1 : Nat) : Int) by omega]
    exact ih (m + 1) _ L' Rn kn M37 (by omega) (by omega) I' f1' ck' ro'' (fun j hj => (vv j hj).1) (fun r hr j hj => by
      by_cases z : r = m + 1
      · rw [z]; exact (vv j hj).2
      · exact ff r (by omega) j hj)
/-- within, where it does not throw -/
theorem n_CA_within {l : Int} (hl : 0 ≤ l ∧ l ≤ 32) (h : Nms L W (t + 85) (t + 62) b cn cc bc v R k M) (hc : Cnu Z L (t + 85) v R k M) (hr : Tr t v M) (nz : ¬ Z t) (c1 : 1 ≤ cn) (f2 : mI M (v 2) 1 = 0) (hWr : ∀ x, b ≤ x → 17 ≤ W x ∧ W x ≤ 20000) (hWs : ∀ x, t + 85 ≤ x → x ≤ t + 85 + 134 → 300 ≤ W x) : Ci G y_CA_within (d + 9) [vr t, vi l] M (wnQ Z L W t b cn cc bc v k l.toNat M) := by
  obtain ⟨e0, kg, ks, o⟩ := h.cnt
  have tz := hr.2.2.2.2
  obtain ⟨n, en⟩ : ∃ n : Nat, l = ((n : Nat) : Int) := ⟨l.toNat, by omega⟩
  subst en
  have t1 := h.2.1.1 1 (by decide)
  have tb := h.2.1
  refine k_CA_within o (i32s (by omega) (by omega)) ⟨fun u => by rcases u with u | u <;> omega, fun _ => ?_⟩
  rw [hr.2.1.1, hr.2.2.1.2.1, e0]
  refine ⟨hr.1, kg, fun u => absurd u (by omega), fun _ => ⟨t1.1.1, fun M14 e14 => ?_⟩⟩
  have sv := h.1.sva h.2.2.1.1 t1
  have f14 : FI (fun x => x = v 1) M M14 := by rw [e14]; exact FI.ui rfl
  have o14 : mOk M14 := by rw [e14]; exact mOk_UI o ⟨by decide, by decide⟩
  have fl : mI M14 (v 1) 1 = 0 := by rw [e14, mI_UI, if_pos ⟨rfl, rfl⟩]
  have ne : ∀ x, x ≠ v 1 → mI M14 x = mI M x := fun x hx => f14.2.2.2.2.2.2 x hx
  have N14 : Nms L W (t + 85) (t + 62) b cn cc bc v R k M14 := h.fi f14 o14 (fun x u => by rw [u]; exact ⟨t1.1.2.2.2.2.1.1, by rw [t1.1.1]; decide⟩) (sv.fi (f14.mono (fun x u => Or.inl u)) o14).1.sb (fun j hj j2 => by
    by_cases c : j = 1
    · subst c; exact Or.inr fl
    · exact Or.inl (by rw [ne _ (tb.2 j 1 hj (by decide) c).2.1]))
  have zv : Z (v 1) := (hc.2.2.1 1 (by decide)).1
  have tv : t ≠ v 1 := fun e => nz (by rw [e]; exact zv)
  have v1b := t1.2.2.2.2.1
  have I14 : wnI Z L W t b cn cc bc v k M v L R k M14 := by
    refine ⟨N14, ?_, Or.inl rfl, f14.fc (fun x u => by rw [u]; exact Or.inl zv), f14.cnu hc, f14.rq, ⟨fun j hj => f14.2.2.2.2.2.2 _ (fun e => sv.gst hj (Or.inl e)), ne t tv, ne _ (tb.2 0 1 (by decide) (by decide) (by decide)).2.1, ne _ (tb.2 3 1 (by decide) (by decide) (by decide)).2.1, ne _ (by omega)⟩, by rw [ne _ (tb.2 2 1 (by decide) (by decide) (by decide)).2.1]; exact f2, fun i _ _ => by rw [f14.2.2.1]⟩
    obtain ⟨t1, t2, t3, t4, t5⟩ := hr
    exact ⟨by rw [f14.1]; exact t1, by rw [f14.2.2.1]; exact t2, by rw [f14.2.2.1]; exact t3, by rw [f14.2.2.1]; exact t4, by rw [f14.2.2.2.2.1]; exact t5⟩
  have r' := I14.2.1
  rw [r'.2.2.1.2.1, r'.2.1.1]
  have hn0 : ∀ j, j < cn → wi9 (xtm M (t + 62) cn) 0 j = if mI M14 (t + 62 + 2) j = 3 then 1 else 0 := fun j hj => by
    have gt : (xtm M (t + 62) cn)[j]? = some (stm M (t + 62) j) := by rw [xtm_map, rget, if_pos hj]
    show (((xtm M (t + 62) cn)[j]?).map (fun y => if y.1 = 3 then (1 : Rat) else 0)).getD 0 = _
    rw [gt, I14.2.2.2.2.2.2.1.1 2 (by decide)]
    rfl
  refine ⟨(N14.2.1.1 1 (by decide)).1.1, (n_begin (d := d + 4) hn0 N14 I14.2.2.2.2.1 fl hWr).mono (fun M17 q => ?_)⟩
  obtain ⟨L', Rn, kn, I', f1', hx, -⟩ := I14.mv nz tz fl q
  obtain ⟨ck', ro', vv⟩ := hx (by decide)
  rw [Int.toNat_natCast]
  exact ⟨I'.1.cnt.2.2.2, s_wi57 (d := d) (by omega) nz tz hWr hWs n 0 v L' Rn kn M17 (by omega) (by omega) I' f1' ck' ro' (fun j hj => (vv j hj).1) (fun r hr j hj => by
    have r0 : r = 0 := by omega
    rw [r0]
    exact (vv j hj).2)⟩
end NCS
