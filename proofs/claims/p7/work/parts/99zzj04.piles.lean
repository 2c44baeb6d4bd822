section
/-! The class's reader: its piles, and what each step makes of them. -/
/-- an open operation: its number, its word, where the operand behind it begins -/
abbrev gqq : Type := Int × Nat × Nat
def xs9 (i0 : Nat) : List gqq → Nat
  | [] => i0
  | g :: _ => g.2.2
def Gop (w E pl O P : Nat → Int) (ec : Nat → Int × Int) (o : Int) (m x b : Nat) (d k : Int) (kn' kn : List Int) (ft' ft : Int × Int) (e' e : Nat) : Prop :=
  (((o = 37 ∧ w m = 36) ∨ (o = 40 ∧ w m = 25) ∨ (o = 41 ∧ w m = 31)) ∧ m = b ∧ x = b + 1 ∧ d = -1 ∧ k = 0 ∧ kn = kn' ∧ ft = ft' ∧ e = e')
  ∨ ((19 ≤ o ∧ o ≤ 29) ∧ w m = o - 1 ∧ x = m + 1 ∧ Eo w (lsq o) b m ∧ d = -1 ∧ k = 0 ∧ kn = kdq w E 0 b m :: kn' ∧ ft = fst9 ft' (fl w E pl 0 b m) ∧ Cd w ec pl O P 0 0 0 b m e' e)
  ∨ ((o = 30 ∨ o = 31) ∧ w m = o - 1 ∧ x = m + 1 ∧ Eo w (lsq o) b m ∧ k = 0 ∧ kn = kdq w E 0 b m :: kn' ∧ ft = fst9 ft' (fl w E pl 0 b m) ∧ ∃ a : Nat, d = a ∧ e = a + 1 ∧ O a = o ∧ Cd w ec pl O P 0 0 0 b m e' a)
  ∨ (o = 33 ∧ w m = 32 ∧ x = m + 1 ∧ Eo w 5 b m ∧ k = (if kdq w E 0 b m = 1 then 0 else 1) ∧ kn = kn' ∧ ft = fst9 ft' (fl w E pl 0 b m) ∧ ∃ a : Nat, d = a ∧ e = a + 1 ∧ O a = 33 ∧ Cd w ec pl O P 0 0 0 b m e' a)
  ∨ (o = 42 ∧ w m = 32 ∧ Eo w 5 b m ∧ m + 1 < x ∧ Eo w 6 (m + 1) (x - 1) ∧ w (x - 1) = 33 ∧ k = (if kdq w E 0 b m = 1 then 0 else 1) + (if kdq w E 0 (m + 1) (x - 1) = 1 then 4 else 0) ∧ kn = kn' ∧ ft = fst9 (fst9 ft' (fl w E pl 0 b m)) (fl w E pl 0 (m + 1) (x - 1)) ∧ ∃ a c : Nat, d = c ∧ e = c + 1 ∧ O a = 33 ∧ P a = (c : Int) + 1 ∧ O c = 42 ∧ Cd w ec pl O P 0 0 0 b m e' a ∧ Cd w ec pl O P 0 0 0 (m + 1) (x - 1) (a + 1) c)
  ∨ ((o = 15 ∨ o = 16) ∧ w m = o - 1 ∧ w (m + 1) = 36 ∧ m = b ∧ d = -1 ∧ kn = kn' ∧ ((x = m + 2 ∧ k = 0 ∧ ft = ft' ∧ e = e') ∨ (m + 2 < x ∧ Eo w 7 (m + 2) (x - 1) ∧ w (x - 1) = 35 ∧ k = 2 + kdq w E 1 (m + 2) (x - 1) ∧ ft = fst9 ft' (fl w E pl 1 (m + 2) (x - 1)) ∧ Cd w ec pl O P 1 o (pl m) (m + 2) (x - 1) e' e)))
def GSq (w E pl O P : Nat → Int) (ec : Nat → Int × Int) (i0 s : Nat) (f0 : Int × Int) : List gqq → List Int → List Int → List Int → Int × Int → Nat → Prop
  | [], od, mq, kn, ft, e => od = [] ∧ mq = [] ∧ kn = [] ∧ ft = f0 ∧ e = s
  | g :: t, od, mq, kn, ft, e => ∃ d od' k mq' kn' ft' e', od = d :: od' ∧ mq = k :: mq' ∧ e' ≤ e ∧ Gop w E pl O P ec g.1 g.2.1 g.2.2 (xs9 i0 t) d k kn' kn ft' ft e' e ∧ GSq w E pl O P ec i0 s f0 t od' mq' kn' ft' e'
/-- an operand of strength c has been read, up to word a -/
def OPq (w E pl O P : Nat → Int) (ec : Nat → Int × Int) (i0 s : Nat) (f0 : Int × Int) (c : Nat) (gs : List gqq) (od mq kn : List Int) (ft : Int × Int) (e a : Nat) : Prop :=
  ∃ kn' ft' e', GSq w E pl O P ec i0 s f0 gs od mq kn' ft' e' ∧ Eo w c (xs9 i0 gs) a ∧ kn = kdq w E 0 (xs9 i0 gs) a :: kn' ∧ ft = fst9 ft' (fl w E pl 0 (xs9 i0 gs) a) ∧ Cd w ec pl O P 0 0 0 (xs9 i0 gs) a e' e
section OR9
variable {w E pl O P O' P' : Nat → Int} {ec : Nat → Int × Int} {i0 s : Nat} {f0 : Int × Int} {gs t : List gqq} {od mq kn : List Int} {ft : Int × Int} {L a m x c : Nat} {o : Int}
theorem kd01 : ∀ (n c i j : Nat), 2 * (j - i) + c ≤ n → (kdq w E c i j = 0 ∨ kdq w E c i j = 1) := by
  intro n
  induction n with
  | zero =>
    intro c i j hn
    rw [kdq, dif_neg (by omega)]
    exact Or.inl rfl
  | succ n ih =>
    intro c i j hn
    have a1 := lcq_le (w := w) (i := i) (j - i)
    have a2 := clq_b (w := w) (m := loq w i j) (j := j)
    rw [kdq]
    by_cases hij : i < j
    · rw [dif_pos hij]
      by_cases hc : c = 1
      · rw [dif_pos hc]
        by_cases hp : lcq w i (j - i) = 0
        · rw [dif_pos hp]
          exact ih _ _ _ (by omega)
        · rw [dif_neg hp]
          split
          · exact Or.inr rfl
          · exact Or.inl rfl
      · rw [dif_neg hc]
        by_cases hm : lin w i j
        · rw [dif_pos hm]
          have a3 := hm.2
          split
          · exact ih _ _ _ (by omega)
          · split
            · exact Or.inr rfl
            · exact Or.inl rfl
        · rw [dif_neg hm]
          split
          · exact ih _ _ _ (by omega)
          · split
            · exact Or.inr rfl
            · split
              · exact Or.inr rfl
              · exact Or.inl rfl
    · rw [dif_neg hij]
      exact Or.inl rfl
theorem kd_01 {c i j : Nat} : kdq w E c i j = 0 ∨ kdq w E c i j = 1 := kd01 _ c i j (Nat.le_refl _)
theorem Gop.cg {m x b : Nat} {d k : Int} {kn' : List Int} {ft' : Int × Int} {e' e : Nat} (h : Gop w E pl O P ec o m x b d k kn' kn ft' ft e' e) (hO : ∀ t, t < e → O' t = O t ∧ P' t = P t) : Gop w E pl O' P' ec o m x b d k kn' kn ft' ft e' e := by
  rcases h with h | ⟨h1, h2, h3, h4, h5, h6, h7, h8, h9⟩ | ⟨h1, h2, h3, h4, h5, h6, h7, a, h8, h9, h10, h11⟩ | ⟨h1, h2, h3, h4, h5, h6, h7, a, h8, h9, h10, h11⟩ | ⟨h1, h2, h3, h4, h5, h6, h7, h8, h9, a, c, k1, k2, k3, k4, k5, k6, k7⟩ | ⟨h1, h2, h3, h4, h5, h6, h7⟩
  · exact Or.inl h
  · exact Or.inr (Or.inl ⟨h1, h2, h3, h4, h5, h6, h7, h8, h9.cg (fun t _ q => hO t q)⟩)
  · exact Or.inr (Or.inr (Or.inl ⟨h1, h2, h3, h4, h5, h6, h7, a, h8, h9, by rw [(hO a (by omega)).1]; exact h10, h11.cg (fun t _ q => hO t (by omega))⟩))
  · exact Or.inr (Or.inr (Or.inr (Or.inl ⟨h1, h2, h3, h4, h5, h6, h7, a, h8, h9, by rw [(hO a (by omega)).1]; exact h10, h11.cg (fun t _ q => hO t (by omega))⟩)))
  · have l7 := k7.lt
    exact Or.inr (Or.inr (Or.inr (Or.inr (Or.inl ⟨h1, h2, h3, h4, h5, h6, h7, h8, h9, a, c, k1, k2, by rw [(hO a (by omega)).1]; exact k3, by rw [(hO a (by omega)).2]; exact k4, by rw [(hO c (by omega)).1]; exact k5, k6.cg (fun t _ q => hO t (by omega)), k7.cg (fun t _ q => hO t (by omega))⟩))))
  · refine Or.inr (Or.inr (Or.inr (Or.inr (Or.inr ⟨h1, h2, h3, h4, h5, h6, ?_⟩))))
    rcases h7 with h7 | ⟨a1, a2, a3, a4, a5, a6⟩
    · exact Or.inl h7
    · exact Or.inr ⟨a1, a2, a3, a4, a5, a6.cg (fun t _ q => hO t q)⟩
theorem GSq.cg : ∀ {gs : List gqq} {od mq kn : List Int} {ft : Int × Int} {e : Nat}, GSq w E pl O P ec i0 s f0 gs od mq kn ft e → (∀ t, t < e → O' t = O t ∧ P' t = P t) → GSq w E pl O' P' ec i0 s f0 gs od mq kn ft e
  | [], od, mq, kn, ft, e, h, _ => h
  | g :: t, od, mq, kn, ft, e, h, hO => by
    obtain ⟨d, od', k, mq', kn', ft', e', h1, h2, h3, h4, h5⟩ := h
    exact ⟨d, od', k, mq', kn', ft', e', h1, h2, h3, h4.cg hO, h5.cg (fun t q => hO t (by omega))⟩
theorem eo_leaf_lo (hw : w a = 1 ∨ w a = 2 ∨ w a = 12 ∨ w a = 13) : lo w a (a + 1) = -1 := lo_none (eo0_leaf hw).pr
/-- a value has been read -/
theorem OPq.val (h : GSq w E pl O P ec i0 s f0 gs od mq kn ft L) (ha : xs9 i0 gs = a) (hw : w a = 1 ∨ w a = 2 ∨ w a = 12 ∨ w a = 13) (hO : ∀ t, t < L → O' t = O t ∧ P' t = P t) (h1 : O' L = (ec a).1) (h2 : P' L = (ec a).2) : OPq w E pl O' P' ec i0 s f0 0 gs od mq (kdq w E 0 a (a + 1) :: kn) (fst9 ft (fl w E pl 0 a (a + 1))) (L + 1) (a + 1) :=
  ⟨kn, ft, L, h.cg hO, by rw [ha]; exact eo0_leaf hw, by rw [ha], by rw [ha], by rw [ha]; exact (Cd_leaf (eo_leaf_lo hw) (by omega) hw).mpr ⟨rfl, h1, h2⟩⟩
/-- a parenthesis, a sign before an operand -/
theorem GSq.pre (h : GSq w E pl O P ec i0 s f0 gs od mq kn ft L) (ha : xs9 i0 gs = a) (ho : (o = 37 ∧ w a = 36) ∨ (o = 40 ∧ w a = 25) ∨ (o = 41 ∧ w a = 31)) : GSq w E pl O P ec i0 s f0 ((o, a, a + 1) :: gs) (-1 :: od) (0 :: mq) kn ft L :=
  ⟨-1, od, 0, mq, kn, ft, L, rfl, rfl, Nat.le_refl _, Or.inl ⟨ho, ha.symm, by rw [ha], rfl, rfl, rfl, rfl, rfl⟩, h⟩
theorem GSq.lst (h : GSq w E pl O P ec i0 s f0 gs od mq kn ft L) (ha : xs9 i0 gs = a) (ho : o = 15 ∨ o = 16) (hw : w a = o - 1) (h1 : w (a + 1) = 36) : GSq w E pl O P ec i0 s f0 ((o, a, a + 2) :: gs) (-1 :: od) (0 :: mq) kn ft L :=
  ⟨-1, od, 0, mq, kn, ft, L, rfl, rfl, Nat.le_refl _, Or.inr (Or.inr (Or.inr (Or.inr (Or.inr ⟨ho, hw, h1, ha.symm, rfl, rfl, Or.inl ⟨rfl, rfl, rfl, rfl⟩⟩)))), h⟩
theorem kft_iff {p q : Prop} {x : Int} (h : p ↔ q) : kft p x = kft q x := by rw [propext h]
/-- a sign before an operand is grouped -/
theorem OPq.gpre (h : OPq w E pl O P ec i0 s f0 c ((o, m, x) :: t) od mq kn ft L a) (ho : o = 40 ∨ o = 41) (hc : c ≤ rsq o) : ∃ od' mq' last kn', od = -1 :: od' ∧ mq = 0 :: mq' ∧ kn = last :: kn' ∧ (last = 0 ∨ last = 1) ∧ ∀ O' P' : Nat → Int, (∀ t, t < L → O' t = O t ∧ P' t = P t) → O' L = o → P' L = pl m → OPq w E pl O' P' ec i0 s f0 (cst o) t od' mq' ((if o = 41 then 1 else 0) :: kn') (fst9 ft (kft (last = if o = 41 then 1 else 0) (pl m))) (L + 1) a := by
  obtain ⟨kn', ft', e', ⟨d, od', k, mq', kn1, ft1, e1, g1, g2, g3, g4, g5⟩, h2, h3, h4, h5⟩ := h
  have h2 : Eo w c x a := h2
  have h3 : kn = kdq w E 0 x a :: kn' := h3
  have h4 : ft = fst9 ft' (fl w E pl 0 x a) := h4
  have h5 : Cd w ec pl O P 0 0 0 x a e' L := h5
  have g4 : Gop w E pl O P ec o m x (xs9 i0 t) d k kn1 kn' ft1 ft' e1 e' := g4
  rcases g4 with ⟨q1, q2, q3, q4, q5, q6, q7, q8⟩ | ⟨q1, -⟩ | ⟨q1, -⟩ | ⟨q1, -⟩ | ⟨q1, -⟩ | ⟨q1, -⟩
  · subst q4 q5 q6 q7 q8
    refine ⟨od', mq', _, kn', g1, g2, h3, kd_01, fun O' P' hO hL hP => ?_⟩
    have hx : x = m + 1 := by omega
    subst hx
    have hb : xs9 i0 t = m := q2.symm
    have pr := h2.pr
    have hj := pr.1
    have l5 := h5.lt
    rcases ho with e | e
    · subst e
      have hw : w m = 25 := by omega
      have hc0 : c = 0 := by have : rsq 40 = 0 := by decide
                             omega
      subst hc0
      have eo := eo0_neg hw h2
      have hlo := lo_none eo.pr
      refine ⟨kn', ft', e', g5.cg (fun u v => hO u (by omega)), by rw [hb]; exact eo, by rw [hb, kd_num hlo (by omega) (Or.inl hw), if_neg (by decide)], ?_, ?_⟩
      · rw [hb, fl_neg hlo (by omega) hw, h4, fst9_a, if_neg (by decide)]; rfl
      · rw [hb]
        exact (Cd_pre hlo (by omega) (Or.inl hw)).mpr ⟨L, h5.cg (fun u _ v => hO u v), rfl, by rw [if_pos hw]; exact hL, hP⟩
    · subst e
      have hw : w m = 31 := by omega
      have h3' : Eo w 3 (m + 1) a := h2.le (by have : rsq 41 = 3 := by decide
                                               omega) (by omega)
      have eo := eo3n hw h3'
      have hlo := lo_not eo.pr hw
      refine ⟨kn', ft', e', g5.cg (fun u v => hO u (by omega)), by rw [hb]; exact eo, by rw [hb, kd_tru hlo (by omega) (Or.inl hw), if_pos rfl], ?_, ?_⟩
      · rw [hb, fl_not hlo (by omega) hw, h4, fst9_a, if_pos rfl]; rfl
      · rw [hb]
        exact (Cd_pre hlo (by omega) (Or.inr hw)).mpr ⟨L, h5.cg (fun u _ v => hO u v), rfl, by rw [if_neg (by omega)]; exact hL, hP⟩
  · omega
  · omega
  · omega
  · omega
  · omega
/-- a sign between two operands is grouped -/
theorem OPq.gbin (h : OPq w E pl O P ec i0 s f0 c ((o, m, x) :: t) od mq kn ft L a) (ho : 19 ≤ o ∧ o ≤ 29) (hc : c ≤ rsq o) : ∃ od' mq' last left kn', od = -1 :: od' ∧ mq = 0 :: mq' ∧ kn = last :: left :: kn' ∧ ((last = 0 ∨ last = 1) ∧ (left = 0 ∨ left = 1)) ∧ ∀ O' P' : Nat → Int, (∀ t, t < L → O' t = O t ∧ P' t = P t) → O' L = o → P' L = pl m → OPq w E pl O' P' ec i0 s f0 (cst o) t od' mq' ((if o ≤ 24 then 1 else 0) :: kn') (fst9 ft (kft (okq (o - 1) left last) (pl m))) (L + 1) a := by
  obtain ⟨kn', ft', e', ⟨d, od', k, mq', kn1, ft1, e1, g1, g2, g3, g4, g5⟩, h2, h3, h4, h5⟩ := h
  have h2 : Eo w c x a := h2
  have h3 : kn = kdq w E 0 x a :: kn' := h3
  have h4 : ft = fst9 ft' (fl w E pl 0 x a) := h4
  have h5 : Cd w ec pl O P 0 0 0 x a e' L := h5
  have g4 : Gop w E pl O P ec o m x (xs9 i0 t) d k kn1 kn' ft1 ft' e1 e' := g4
  rcases g4 with ⟨q1, -⟩ | ⟨q1, q2, q3, q4, q5, q6, q7, q8, q9⟩ | ⟨q1, -⟩ | ⟨q1, -⟩ | ⟨q1, -⟩ | ⟨q1, -⟩
  · omega
  · subst q5 q6 q3 q7 q8
    refine ⟨od', mq', _, _, kn1, g1, g2, h3, ⟨kd_01, kd_01⟩, fun O' P' hO hL hP => ?_⟩
    have p2 := h2.pr
    have hj := p2.1
    have l5 := h5.lt
    have l9 := q9.lt
    have p4 := q4.pr.1
    obtain ⟨hlo, eo⟩ := lo_bin q4 (h2.le hc (rsq_le o)) q2 (by omega)
    have htru : (haveI := Classical.propDecidable (tru (w m)); if tru (w m) then (1 : Int) else 0) = if o ≤ 24 then 1 else 0 := by
      by_cases y : o ≤ 24
      · rw [if_pos y, if_pos (by unfold tru; omega)]
      · rw [if_neg y, if_neg (by unfold tru; omega)]
    refine ⟨kn1, ft1, e1, g5.cg (fun u v => hO u (by omega)), eo, ?_, ?_, ?_⟩
    · rw [kd_bin hlo (by omega) (by omega) (by omega), htru]
    · rw [fl_bin hlo (by omega) (by omega) (by omega), h4, q2, fst9_a, fst9_a, fst9_a]
    · exact (Cd_bin hlo (by omega) (by omega) (by omega) (by omega) (by omega)).mpr ⟨e', L, q9.cg (fun u _ v => hO u (by omega)), h5.cg (fun u _ v => hO u v), rfl, by rw [q2, hL]; omega, hP⟩
  · omega
  · omega
  · omega
  · omega
/-- '&' or '|' is grouped -/
theorem OPq.gjmp (h : OPq w E pl O P ec i0 s f0 c ((o, m, x) :: t) od mq kn ft L a) (ho : o = 30 ∨ o = 31) (hc : c ≤ rsq o) : ∃ (d : Nat) (od' mq' : List Int) (last left : Int) (kn' : List Int), od = (d : Int) :: od' ∧ mq = 0 :: mq' ∧ kn = last :: left :: kn' ∧ ((last = 0 ∨ last = 1) ∧ (left = 0 ∨ left = 1)) ∧ d < L ∧ ∀ O' P' : Nat → Int, (∀ t, t < L → O' t = O t) → (∀ t, t < L → t ≠ d → P' t = P t) → P' d = L → OPq w E pl O' P' ec i0 s f0 (cst o) t od' mq' (1 :: kn') (fst9 ft (kft (okq (o - 1) left last) (pl m))) L a := by
  obtain ⟨kn', ft', e', ⟨d, od', k, mq', kn1, ft1, e1, g1, g2, g3, g4, g5⟩, h2, h3, h4, h5⟩ := h
  have h2 : Eo w c x a := h2
  have h3 : kn = kdq w E 0 x a :: kn' := h3
  have h4 : ft = fst9 ft' (fl w E pl 0 x a) := h4
  have h5 : Cd w ec pl O P 0 0 0 x a e' L := h5
  have g4 : Gop w E pl O P ec o m x (xs9 i0 t) d k kn1 kn' ft1 ft' e1 e' := g4
  rcases g4 with ⟨q1, -⟩ | ⟨q1, -⟩ | ⟨q1, q2, q3, q4, q6, q7, q8, d9, r1, r2, r3, q9⟩ | ⟨q1, -⟩ | ⟨q1, -⟩ | ⟨q1, -⟩
  · omega
  · omega
  · subst q6 q3 q7 q8 r1 r2
    have p2 := h2.pr
    have hj := p2.1
    have l5 := h5.lt
    have l9 := q9.lt
    have p4 := q4.pr.1
    refine ⟨d9, od', mq', _, _, kn1, g1, g2, h3, ⟨kd_01, kd_01⟩, by omega, fun O' P' hO hP hd => ?_⟩
    obtain ⟨hlo, eo⟩ := lo_bin q4 (h2.le hc (rsq_le o)) q2 (by omega)
    have htru : (haveI := Classical.propDecidable (tru (w m)); if tru (w m) then (1 : Int) else 0) = 1 := by
      rw [if_pos (by unfold tru; omega)]
    refine ⟨kn1, ft1, e1, g5.cg (fun u v => ⟨hO u (by omega), hP u (by omega) (by omega)⟩), eo, ?_, ?_, ?_⟩
    · rw [kd_bin hlo (by omega) (by omega) (by omega), htru]
    · rw [fl_bin hlo (by omega) (by omega) (by omega), h4, q2, fst9_a, fst9_a, fst9_a]
    · exact (Cd_jmp hlo (by omega) (by omega) (by omega)).mpr ⟨d9, q9.cg (fun u _ v => ⟨hO u (by omega), hP u (by omega) (by omega)⟩), by rw [hO d9 (by omega), r3, q2]; omega, hd, h5.cg (fun u v1 v => ⟨hO u v, hP u v (by omega)⟩)⟩
  · omega
  · omega
  · omega
/-- a '?' with its ':' is grouped -/
theorem OPq.gels (h : OPq w E pl O P ec i0 s f0 c ((42, m, x) :: t) od mq kn ft L a) (hc : c ≤ 6) : ∃ (d : Nat) (od' : List Int) (k : Int) (mq' : List Int) (last : Int) (kn' : List Int), od = (d : Int) :: od' ∧ mq = k :: mq' ∧ kn = last :: kn' ∧ ((last = 0 ∨ last = 1) ∧ 0 ≤ k ∧ k ≤ 5) ∧ d < L ∧ ∀ O' P' : Nat → Int, (∀ t, t < L → O' t = O t) → (∀ t, t < L → t ≠ d → P' t = P t) → P' d = L → OPq w E pl O' P' ec i0 s f0 6 t od' mq' (last :: kn') (fst9 ft (kft (k = if last = 1 then 4 else 0) (pl m))) L a := by
  obtain ⟨kn', ft', e', ⟨d, od', k, mq', kn1, ft1, e1, g1, g2, g3, g4, g5⟩, h2, h3, h4, h5⟩ := h
  have h2 : Eo w c x a := h2
  have h3 : kn = kdq w E 0 x a :: kn' := h3
  have h4 : ft = fst9 ft' (fl w E pl 0 x a) := h4
  have h5 : Cd w ec pl O P 0 0 0 x a e' L := h5
  have g4 : Gop w E pl O P ec 42 m x (xs9 i0 t) d k kn1 kn' ft1 ft' e1 e' := g4
  rcases g4 with ⟨q1, -⟩ | ⟨q1, -⟩ | ⟨q1, -⟩ | ⟨q1, -⟩ | ⟨q1, q2, q3, q4, q5, q6, q7, q8, q9, d1, d2, r1, r2, r3, r4, r5, r6, r7⟩ | ⟨q1, -⟩
  · omega
  · omega
  · omega
  · omega
  · subst q8 q9 r1 r2
    have p2 := h2.pr
    have hj := p2.1
    have l5 := h5.lt
    have l6 := r6.lt
    have l7 := r7.lt
    have p3 := q3.pr
    have ex1 : x - 1 + 1 = x := by omega
    have k1 := kd_01 (w := w) (E := E) (c := 0) (i := xs9 i0 t) (j := m)
    have k2 := kd_01 (w := w) (E := E) (c := 0) (i := m + 1) (j := x - 1)
    have k3 := kd_01 (w := w) (E := E) (c := 0) (i := x) (j := a)
    refine ⟨d2, od', k, mq', _, kn', g1, g2, h3, ⟨k3, by rw [q7]; (repeat' split) <;> omega, by rw [q7]; (repeat' split) <;> omega⟩, by omega, fun O' P' hO hP hd => ?_⟩
    have hlo := lo_ask p3 q2 (j := a) (by omega)
    have hcl : clq w m a = x - 1 := clq_eo q5 q6 (by omega)
    have eo : Eo w 6 (xs9 i0 t) a := eo6 q2 q6 q3 q5 (by rw [ex1]; exact h2.le hc (by omega))
    refine ⟨kn', ft1, e1, g5.cg (fun u v => ⟨hO u (by omega), hP u (by omega) (by omega)⟩), eo, ?_, ?_, ?_⟩
    · rw [kd_ask hlo (Nat.le_of_lt p3.1) (by omega) q2 hcl, ex1]
    · rw [fl_ask hlo (Nat.le_of_lt p3.1) (by omega) q2 hcl, h4, ex1, fst9_a, fst9_a, fst9_a, fst9_a, fst9_a]
      refine congrArg (fun z => fst9 ft1 (fst9 _ (fst9 _ (fst9 _ z)))) (kft_iff ?_)
      rw [q7]
      rcases k1 with k1 | k1 <;> rcases k2 with k2 | k2 <;> rcases k3 with k3 | k3 <;> rw [k1, k2, k3] <;> decide
    · refine (Cd_ask hlo (Nat.le_of_lt p3.1) (by omega) q2 hcl).mpr ⟨d1, d2, r6.cg (fun u _ v => ⟨hO u (by omega), hP u (by omega) (by omega)⟩), by rw [hO d1 (by omega)]; exact r3, by rw [hP d1 (by omega) (by omega)]; exact r4, r7.cg (fun u _ v => ⟨hO u (by omega), hP u (by omega) (by omega)⟩), by rw [hO d2 (by omega)]; exact r5, hd, ?_⟩
      rw [ex1]
      exact h5.cg (fun u v1 v => ⟨hO u v, hP u v (by omega)⟩)
  · omega
end OR9
end
section
/-! The class's reader: more steps over its piles. -/
section OS9
variable {w E pl O P O' P' : Nat → Int} {ec : Nat → Int × Int} {i0 s : Nat} {f0 : Int × Int} {gs t : List gqq} {od mq kn : List Int} {ft : Int × Int} {L a m x c : Nat} {o : Int}
theorem lsq_le (o : Int) : lsq o ≤ 6 := by unfold lsq; (repeat' split) <;> omega
/-- behind an operand comes a sign -/
theorem OPq.sbin (h : OPq w E pl O P ec i0 s f0 c gs od mq kn ft L a) (ho : 19 ≤ o ∧ o ≤ 29) (hw : w a = o - 1) (hc : c ≤ lsq o) : GSq w E pl O P ec i0 s f0 ((o, a, a + 1) :: gs) (-1 :: od) (0 :: mq) kn ft L := by
  obtain ⟨kn', ft', e', h1, h2, h3, h4, h5⟩ := h
  exact ⟨-1, od, 0, mq, kn', ft', e', rfl, rfl, Nat.le_of_lt h5.lt, Or.inr (Or.inl ⟨ho, hw, rfl, h2.le hc (lsq_le o), rfl, rfl, h3, h4, h5⟩), h1⟩
theorem OPq.sjmp (h : OPq w E pl O P ec i0 s f0 c gs od mq kn ft L a) (ho : o = 30 ∨ o = 31) (hw : w a = o - 1) (hc : c ≤ lsq o) (hO : ∀ t, t < L → O' t = O t ∧ P' t = P t) (hL : O' L = o) : GSq w E pl O' P' ec i0 s f0 ((o, a, a + 1) :: gs) ((L : Int) :: od) (0 :: mq) kn ft (L + 1) := by
  obtain ⟨kn', ft', e', h1, h2, h3, h4, h5⟩ := h
  have l := h5.lt
  exact ⟨L, od, 0, mq, kn', ft', e', rfl, rfl, by omega, Or.inr (Or.inr (Or.inl ⟨ho, hw, rfl, h2.le hc (lsq_le o), rfl, h3, h4, L, rfl, rfl, hL, h5.cg (fun u _ v => hO u v)⟩)), h1.cg (fun u v => hO u (by omega))⟩
theorem OPq.sask (h : OPq w E pl O P ec i0 s f0 c gs od mq kn ft L a) (hw : w a = 32) (hc : c ≤ 5) (hO : ∀ t, t < L → O' t = O t ∧ P' t = P t) (hL : O' L = 33) : ∃ last kn', kn = last :: kn' ∧ (last = 0 ∨ last = 1) ∧ GSq w E pl O' P' ec i0 s f0 ((33, a, a + 1) :: gs) ((L : Int) :: od) ((if last = 1 then 0 else 1) :: mq) kn' ft (L + 1) := by
  obtain ⟨kn', ft', e', h1, h2, h3, h4, h5⟩ := h
  have l := h5.lt
  exact ⟨_, kn', h3, kd_01, L, od, _, mq, kn', ft', e', rfl, rfl, by omega, Or.inr (Or.inr (Or.inr (Or.inl ⟨rfl, hw, rfl, h2.le hc (by omega), rfl, rfl, h4, L, rfl, rfl, hL, h5.cg (fun u _ v => hO u v)⟩))), h1.cg (fun u v => hO u (by omega))⟩
/-- the ':' of a '?' -/
theorem OPq.colon (h : OPq w E pl O P ec i0 s f0 c ((33, m, x) :: t) od mq kn ft L a) (hw : w a = 33) (hc : c ≤ 6) : ∃ (d : Nat) (od' : List Int) (k : Int) (mq' : List Int) (last : Int) (kn' : List Int), od = (d : Int) :: od' ∧ mq = k :: mq' ∧ kn = last :: kn' ∧ ((last = 0 ∨ last = 1) ∧ (k = 0 ∨ k = 1)) ∧ d < L ∧ ∀ O' P' : Nat → Int, (∀ t, t < L → O' t = O t) → (∀ t, t < L → t ≠ d → P' t = P t) → O' L = 42 → P' d = (L : Int) + 1 → GSq w E pl O' P' ec i0 s f0 ((42, m, a + 1) :: t) ((L : Int) :: od') ((k + if last = 1 then 4 else 0) :: mq') kn' ft (L + 1) := by
  obtain ⟨kn', ft', e', ⟨d, od', k, mq', kn1, ft1, e1, g1, g2, g3, g4, g5⟩, h2, h3, h4, h5⟩ := h
  have h2 : Eo w c x a := h2
  have h3 : kn = kdq w E 0 x a :: kn' := h3
  have h4 : ft = fst9 ft' (fl w E pl 0 x a) := h4
  have h5 : Cd w ec pl O P 0 0 0 x a e' L := h5
  have g4 : Gop w E pl O P ec 33 m x (xs9 i0 t) d k kn1 kn' ft1 ft' e1 e' := g4
  rcases g4 with ⟨q1, -⟩ | ⟨q1, -⟩ | ⟨q1, -⟩ | ⟨q1, q2, q3, q4, q6, q7, q8, d9, r1, r2, r3, q9⟩ | ⟨q1, -⟩ | ⟨q1, -⟩
  · omega
  · omega
  · omega
  · subst q3 q7 q8 r1 r2
    have l5 := h5.lt
    have l9 := q9.lt
    have hj := h2.pr.1
    refine ⟨d9, od', k, mq', _, kn', g1, g2, h3, ⟨kd_01, by rw [q6]; split <;> omega⟩, by omega, fun O' P' hO hP hL hd => ?_⟩
    refine ⟨L, od', _, mq', kn', ft1, e1, rfl, rfl, by omega, Or.inr (Or.inr (Or.inr (Or.inr (Or.inl ⟨rfl, q2, q4, by show m + 1 < a + 1; omega, h2.le hc (by omega), hw, by rw [q6]; rfl, rfl, ?_, d9, L, rfl, rfl, by rw [hO d9 (by omega)]; exact r3, hd, hL, q9.cg (fun u _ v => ⟨hO u (by omega), hP u (by omega) (by omega)⟩), h5.cg (fun u v1 v => ⟨hO u v, hP u v (by omega)⟩)⟩)))), g5.cg (fun u v => ⟨hO u (by omega), hP u (by omega) (by omega)⟩)⟩
    exact h4
  · omega
  · omega
/-- a part of a list is over -/
theorem OPq.part (h : OPq w E pl O P ec i0 s f0 c ((o, m, x) :: t) od mq kn ft L a) (ho : o = 15 ∨ o = 16) (hc : c ≤ 6) : ∃ (od' : List Int) (k : Int) (mq' : List Int) (last : Int) (kn' : List Int), od = -1 :: od' ∧ mq = k :: mq' ∧ kn = last :: kn' ∧ ((last = 0 ∨ last = 1) ∧ (k = 0 ∨ k = 2 ∨ k = 3)) ∧ w m = o - 1 ∧ w (m + 1) = 36 ∧ m = xs9 i0 t ∧ m + 2 < a ∧ Eo w 7 (m + 2) a ∧ kdq w E 1 (m + 2) a = (if k = 3 ∨ last = 1 then 1 else 0) ∧ ∃ ft1 e1, ft = fst9 ft1 (fl w E pl 1 (m + 2) a) ∧ e1 < L ∧ (∀ O' P' : Nat → Int, (∀ t, t < L → O' t = O t ∧ P' t = P t) → GSq w E pl O' P' ec i0 s f0 t od' mq' kn' ft1 e1) ∧ ∀ O' P' : Nat → Int, (∀ t, t < L → O' t = O t ∧ P' t = P t) → (k = 0 → Cd w ec pl O' P' 1 o (pl m) (m + 2) a e1 L) ∧ (k ≠ 0 → O' L = o → P' L = pl m → Cd w ec pl O' P' 1 o (pl m) (m + 2) a e1 (L + 1)) := by
  obtain ⟨kn', ft', e', ⟨d, od', k, mq', kn1, ft1, e1, g1, g2, g3, g4, g5⟩, h2, h3, h4, h5⟩ := h
  have h2 : Eo w c x a := h2
  have h3 : kn = kdq w E 0 x a :: kn' := h3
  have h4 : ft = fst9 ft' (fl w E pl 0 x a) := h4
  have h5 : Cd w ec pl O P 0 0 0 x a e' L := h5
  have g4 : Gop w E pl O P ec o m x (xs9 i0 t) d k kn1 kn' ft1 ft' e1 e' := g4
  have h6 : Eo w 6 x a := h2.le hc (by omega)
  have l5 := h5.lt
  have hj := h6.pr.1
  have k3 := kd_01 (w := w) (E := E) (c := 0) (i := x) (j := a)
  rcases g4 with ⟨q1, -⟩ | ⟨q1, -⟩ | ⟨q1, -⟩ | ⟨q1, -⟩ | ⟨q1, -⟩ | ⟨q1, q2, q3, q4, q5, q6, q7⟩
  · omega
  · omega
  · omega
  · omega
  · omega
  · subst q5 q6
    rcases q7 with ⟨r1, r2, r3, r4⟩ | ⟨r1, r2, r3, r4, r5, r6⟩
    · subst r1 r2 r3 r4
      have l0 := lcq_eo h6 (by omega)
      refine ⟨od', 0, mq', _, kn', g1, g2, h3, ⟨k3, Or.inl rfl⟩, q2, q3, q4, hj, h6.one (by omega), ?_, ft', e', ?_, l5, fun O' P' hO => g5.cg (fun u v => hO u (by omega)), fun O' P' hO => ⟨fun _ => (Cd_l1 hj l0).mpr (h5.cg (fun u _ v => hO u v)), fun q => absurd rfl q⟩⟩
      · rw [kd_l1 hj l0]
        rcases k3 with k3 | k3 <;> rw [k3] <;> decide
      · rw [fl_l1 hj l0]; exact h4
    · have ex1 : x - 1 + 1 = x := by omega
      have h6' : Eo w 6 (x - 1 + 1) a := by rw [ex1]; exact h6
      have l0 := lcq_7 r2 r3 h6'
      have k1 := kd_01 (w := w) (E := E) (c := 1) (i := m + 2) (j := x - 1)
      have l6 := r6.lt
      have hm := r2.pr.1
      refine ⟨od', k, mq', _, kn', g1, g2, h3, ⟨k3, by omega⟩, q2, q3, q4, by omega, eo7 r3 r2 h6', ?_, ft1, e1, ?_, by omega, fun O' P' hO => g5.cg (fun u v => hO u (by omega)), fun O' P' hO => ⟨fun q => by omega, fun _ hL hP => (Cd_ln (m := x - 1) (by omega) l0 (by omega)).mpr ⟨e', L, r6.cg (fun u _ v => hO u (by omega)), by rw [ex1]; exact h5.cg (fun u _ v => hO u v), rfl, hL, hP⟩⟩⟩
      · rw [kd_ln (m := x - 1) (by omega) l0 (by omega), ex1, r4]
        rcases k1 with k1 | k1 <;> rcases k3 with k3 | k3 <;> rw [k1, k3] <;> decide
      · rw [fl_ln (m := x - 1) (by omega) l0 (by omega), ex1, h4, r5, fst9_a]
theorem OPq.comma (h : OPq w E pl O P ec i0 s f0 c ((o, m, x) :: t) od mq kn ft L a) (ho : o = 15 ∨ o = 16) (hc : c ≤ 6) (hw : w a = 35) : ∃ (od' : List Int) (k : Int) (mq' : List Int) (last : Int) (kn' : List Int), od = -1 :: od' ∧ mq = k :: mq' ∧ kn = last :: kn' ∧ ((last = 0 ∨ last = 1) ∧ (k = 0 ∨ k = 2 ∨ k = 3)) ∧ ∀ (O' P' : Nat → Int) (L' : Nat), (∀ t, t < L → O' t = O t ∧ P' t = P t) → (k = 0 → L' = L) → (k ≠ 0 → L' = L + 1 ∧ O' L = o ∧ P' L = pl m) → GSq w E pl O' P' ec i0 s f0 ((o, m, a + 1) :: t) (-1 :: od') ((if k = 3 ∨ last = 1 then 3 else 2) :: mq') kn' ft L' := by
  obtain ⟨od', k, mq', last, kn', h1, h2, h3, h4, h5, h6, h7, h8, h9, h10, ft1, e1, h11, h12, h13, h14⟩ := h.part ho hc
  refine ⟨od', k, mq', last, kn', h1, h2, h3, h4, fun O' P' L' hO hL0 hL1 => ?_⟩
  have cd : Cd w ec pl O' P' 1 o (pl m) (m + 2) a e1 L' := by
    by_cases z : k = 0
    · rw [hL0 z]; exact (h14 O' P' hO).1 z
    · obtain ⟨a1, a2, a3⟩ := hL1 z
      rw [a1]; exact (h14 O' P' hO).2 z a2 a3
  refine ⟨-1, od', _, mq', kn', ft1, e1, rfl, rfl, Nat.le_of_lt cd.lt, Or.inr (Or.inr (Or.inr (Or.inr (Or.inr ⟨ho, h5, h6, h7, rfl, rfl, Or.inr ⟨by show m + 2 < a + 1; omega, h9, hw, ?_, h11, cd⟩⟩)))), h13 O' P' hO⟩
  show (if k = 3 ∨ last = 1 then (3 : Int) else 2) = 2 + kdq w E 1 (m + 2) a
  rw [h10]
  by_cases z : k = 3 ∨ last = 1
  · rw [if_pos z, if_pos z]; rfl
  · rw [if_neg z, if_neg z]; rfl
theorem OPq.clos (h : OPq w E pl O P ec i0 s f0 c ((o, m, x) :: t) od mq kn ft L a) (ho : o = 15 ∨ o = 16) (hc : c ≤ 6) (hw : w a = 37) : ∃ (od' : List Int) (k : Int) (mq' : List Int) (last : Int) (kn' : List Int), od = -1 :: od' ∧ mq = k :: mq' ∧ kn = last :: kn' ∧ ((last = 0 ∨ last = 1) ∧ (k = 0 ∨ k = 2 ∨ k = 3)) ∧ ∀ (O' P' : Nat → Int) (L' : Nat), (∀ t, t < L → O' t = O t ∧ P' t = P t) → (k = 0 → L' = L) → (k ≠ 0 → L' = L + 1 ∧ O' L = o ∧ P' L = pl m) → OPq w E pl O' P' ec i0 s f0 0 t od' mq' (0 :: kn') (fst9 ft (kft (¬ (k = 3 ∨ last = 1)) (pl m))) L' (a + 1) := by
  obtain ⟨od', k, mq', last, kn', h1, h2, h3, h4, h5, h6, h7, h8, h9, h10, ft1, e1, h11, h12, h13, h14⟩ := h.part ho hc
  refine ⟨od', k, mq', last, kn', h1, h2, h3, h4, fun O' P' L' hO hL0 hL1 => ?_⟩
  have cd : Cd w ec pl O' P' 1 o (pl m) (m + 2) a e1 L' := by
    by_cases z : k = 0
    · rw [hL0 z]; exact (h14 O' P' hO).1 z
    · obtain ⟨a1, a2, a3⟩ := hL1 z
      rw [a1]; exact (h14 O' P' hO).2 z a2 a3
  have h15 : w m = 14 ∨ w m = 15 := by omega
  have eo : Eo w 0 m (a + 1) := eo0_lst h15 h6 hw h9
  have hlo := lo_none eo.pr
  refine ⟨kn', ft1, e1, h13 O' P' hO, by rw [← h7]; exact eo, by rw [← h7, kd_num hlo (by omega) (by omega)], ?_, ?_⟩
  · rw [← h7, fl_lst hlo (by omega) h15, show a + 1 - 1 = a by first | rfl | omega, h11, fst9_a]
    refine congrArg (fun z => fst9 ft1 (fst9 _ z)) (kft_iff ?_)
    rw [h10]
    by_cases z : k = 3 ∨ last = 1
    · rw [if_pos z]
      exact ⟨fun q => absurd z q, fun q => absurd q (by decide)⟩
    · rw [if_neg z]
      exact ⟨fun _ => rfl, fun _ => z⟩
  · rw [← h7]
    refine (Cd_lst hlo (by omega) h15).mpr ?_
    rw [show a + 1 - 1 = a by first | rfl | omega, h5, show o - 1 + 1 = o by first | rfl | omega]
    exact cd
theorem OPq.cpar (h : OPq w E pl O P ec i0 s f0 c ((37, m, x) :: t) od mq kn ft L a) (hc : c ≤ 6) (hw : w a = 37) : ∃ (od' mq' : List Int), od = -1 :: od' ∧ mq = 0 :: mq' ∧ OPq w E pl O P ec i0 s f0 0 t od' mq' kn ft L (a + 1) := by
  obtain ⟨kn', ft', e', ⟨d, od', k, mq', kn1, ft1, e1, g1, g2, g3, g4, g5⟩, h2, h3, h4, h5⟩ := h
  have h2 : Eo w c x a := h2
  have h3 : kn = kdq w E 0 x a :: kn' := h3
  have h4 : ft = fst9 ft' (fl w E pl 0 x a) := h4
  have h5 : Cd w ec pl O P 0 0 0 x a e' L := h5
  have g4 : Gop w E pl O P ec 37 m x (xs9 i0 t) d k kn1 kn' ft1 ft' e1 e' := g4
  rcases g4 with ⟨q1, q2, q3, q4, q5, q6, q7, q8⟩ | ⟨q1, -⟩ | ⟨q1, -⟩ | ⟨q1, -⟩ | ⟨q1, -⟩ | ⟨q1, -⟩
  · subst q4 q5 q6 q7 q8
    have hx : x = m + 1 := by omega
    subst hx
    have hw36 : w m = 36 := by omega
    have eo : Eo w 0 m (a + 1) := eo0_par hw36 hw (h2.le hc (by omega))
    have hlo := lo_none eo.pr
    refine ⟨od', mq', g1, g2, kn', ft', e', g5, by rw [← q2]; exact eo, ?_, ?_, ?_⟩
    · rw [← q2, kd_par hlo (by have := h2.pr.1; omega) hw36]; exact h3
    · rw [← q2, fl_par hlo (by have := h2.pr.1; omega) hw36]; exact h4
    · rw [← q2]
      exact (Cd_par hlo (by have := h2.pr.1; omega) hw36).mpr h5
  · omega
  · omega
  · omega
  · omega
  · omega
/-- the rule is over: one operand is left -/
theorem OPq.done (h : OPq w E pl O P ec i0 s f0 c [] od mq kn ft L a) : Eo w c i0 a ∧ kn = [kdq w E 0 i0 a] ∧ ft = fst9 f0 (fl w E pl 0 i0 a) ∧ Cd w ec pl O P 0 0 0 i0 a s L := by
  obtain ⟨kn', ft', e', ⟨-, -, g3, g4, g5⟩, h2, h3, h4, h5⟩ := h
  subst g3 g4 g5
  exact ⟨h2, h3, h4, h5⟩
end OS9
end
section
/-! THE CLASS: its words. -/
section WO
variable {G : mG} {d w T A B D N C k : Nat} {M M' M1 : mM}
/-- the words' places: T the tape, N characters; A sorts, B starts, D amounts, all of C places -/
def WA (M : mM) (w T A B D N C : Nat) : Prop := mK M w = 2 ∧ (mR M w 0 = T ∧ mR M w 3 = A ∧ mR M w 4 = B ∧ mR M w 5 = D) ∧ (mK M T = 32 ∧ N ≤ mN M T) ∧ (mK M A = 30 ∧ mK M B = 30 ∧ mK M D = 30) ∧ (mN M A = C ∧ mN M B = C ∧ mN M D = C) ∧ mI M w 1 = N ∧ N ≤ 16384 ∧ N + 2 ≤ C ∧ (A ≠ B ∧ A ≠ D ∧ B ≠ D)
def woA (w A B D : Nat) : Nat → Prop := fun x => x = w ∨ x = A ∨ x = B ∨ x = D
/-- a word that may stand -/
def wdk (N : Nat) (s st am : Int) : Prop := (1 ≤ s ∧ s ≤ 39) ∧ (0 ≤ st ∧ st < N) ∧ (s = 2 → 1 ≤ am ∧ am ≤ 40 ∧ st + am ≤ N) ∧ (s = 3 → 0 ≤ am ∧ am ≤ 999999999)
/-- k words have been taken -/
def WI (M : mM) (w A B D N k : Nat) : Prop := mI M w 2 = k ∧ ∀ i, i < k → wdk N (mI M A i) (mI M B i) (mI M D i)
theorem WA.fi (h : WA M w T A B D N C) (f : FI (woA w A B D) M M') (h1 : mI M' w 1 = mI M w 1) : WA M' w T A B D N C := by
  obtain ⟨f1, f2, f3, -⟩ := f
  unfold WA at h ⊢
  rw [f1, f2, f3, h1]
  exact h
theorem WA.ne (h : WA M w T A B D N C) : w ≠ A ∧ w ≠ B ∧ w ≠ D ∧ T ≠ w ∧ T ≠ A ∧ T ≠ B ∧ T ≠ D := by
  obtain ⟨h1, -, ⟨h2, -⟩, ⟨h3, h4, h5⟩, -⟩ := h
  refine ⟨fun e => ?_, fun e => ?_, fun e => ?_, fun e => ?_, fun e => ?_, fun e => ?_, fun e => ?_⟩ <;> subst e <;> omega
theorem s_Wo_isDigit {x : Int} (hO : mOk M) (hx : i32 x) : Ci G y_Wo_isDigit d [vi x] M (fun r M' => M' = M ∧ (r = 0 ∨ r = 1) ∧ (r ≠ 0 ↔ 48 ≤ x ∧ x ≤ 57)) :=
  k_Wo_isDigit hO hx (fun v e => by
    by_cases y : x < 48 ∨ 57 < x
    · rw [if_pos y] at e
      exact ⟨rfl, by omega, by omega⟩
    · rw [if_neg y] at e
      exact ⟨rfl, by omega, by omega⟩)
theorem s_Wo_add {s st am : Int} (hs : i32 s) (hst : i32 st) (ham : i32 am) (hO : mOk M) (h : WA M w T A B D N C) (hk : mI M w 2 = k) (hC : k < C) (hC2 : C ≤ 16777216) : Cv G y_Wo_add d [vr w, vi s, vi st, vi am] M (fun M' => mOk M' ∧ FI (woA w A B D) M M' ∧ WA M' w T A B D N C ∧ mI M' w 2 = k + 1 ∧ (∀ i, mI M' A i = if i = k then s else mI M A i) ∧ (∀ i, mI M' B i = if i = k then st else mI M B i) ∧ (∀ i, mI M' D i = if i = k then am else mI M D i)) := by
  obtain ⟨n1, n2, n3, -⟩ := h.ne
  obtain ⟨h1, ⟨p0, p3, p4, p5⟩, h3, ⟨k3, k4, k5⟩, ⟨c3, c4, c5⟩, h6, h7, h8, ⟨d1, d2, d3⟩⟩ := id h
  refine k_Wo_add hO hs hst ham ?_
  rw [p3, c3]
  refine ⟨h1, k3, by omega, fun M4 e4 => ?_⟩
  have a4 : mI M4 w = mI M w := by rw [e4]; funext j; rw [mI_UI, if_neg (fun z => n1 z.1)]
  have R4 : mR M4 = mR M := by rw [e4]; rfl
  have N4 : mN M4 = mN M := by rw [e4]; rfl
  have K4 : mK M4 = mK M := by rw [e4]; rfl
  rw [R4, K4, N4, p4, a4, hk, Int.toNat_natCast, c4]
  refine ⟨k4, by omega, fun M8 e8 => ?_⟩
  have a8 : mI M8 w = mI M w := by rw [e8]; funext j; rw [mI_UI, if_neg (fun z => n2 z.1), a4]
  have R8 : mR M8 = mR M := by rw [e8]; exact R4
  have N8 : mN M8 = mN M := by rw [e8]; exact N4
  have K8 : mK M8 = mK M := by rw [e8]; exact K4
  rw [R8, K8, N8, p5, a8, hk, Int.toNat_natCast, c5]
  refine ⟨k5, by omega, fun M12 e12 => ?_⟩
  have a12 : mI M12 w = mI M w := by rw [e12]; funext j; rw [mI_UI, if_neg (fun z => n3 z.1), a8]
  rw [a12, hk]
  refine ⟨⟨by omega, by omega⟩, fun M15 e15 => ?_⟩
  rw [hk, Int.toNat_natCast] at e4
  have fi : FI (woA w A B D) M M15 := by
    have g4 : FI (woA w A B D) M M4 := by rw [e4]; exact FI.ui (Or.inr (Or.inl rfl))
    have g8 : FI (woA w A B D) M4 M8 := by rw [e8]; exact FI.ui (Or.inr (Or.inr (Or.inl rfl)))
    have g12 : FI (woA w A B D) M8 M12 := by rw [e12]; exact FI.ui (Or.inr (Or.inr (Or.inr rfl)))
    have g15 : FI (woA w A B D) M12 M15 := by rw [e15]; exact FI.ui (Or.inl rfl)
    exact ((g4.trans g8).trans g12).trans g15
  have oO : mOk M15 := by
    have o4 : mOk M4 := by rw [e4]; exact mOk_UI hO hs
    have o8 : mOk M8 := by rw [e8]; exact mOk_UI o4 hst
    have o12 : mOk M12 := by rw [e12]; exact mOk_UI o8 ham
    rw [e15]; exact mOk_UI o12 (⟨by omega, by omega⟩)
  refine ⟨oO, fi, h.fi fi (by rw [e15, mI_UI, if_neg (fun z => absurd z.2 (by decide)), a12]), by rw [e15, mI_UI, if_pos ⟨rfl, rfl⟩], fun i => ?_, fun i => ?_, fun i => ?_⟩
  · rw [e15, mI_UI, if_neg (fun z => n1 z.1.symm), e12, mI_UI, if_neg (fun z => d2 z.1), e8, mI_UI, if_neg (fun z => d1 z.1), e4, mI_UI]
    by_cases y : i = k
    · rw [if_pos y, if_pos ⟨rfl, y⟩]
    · rw [if_neg y, if_neg (fun z => y z.2)]
  · rw [e15, mI_UI, if_neg (fun z => n2 z.1.symm), e12, mI_UI, if_neg (fun z => d3 z.1), e8, mI_UI]
    by_cases y : i = k
    · rw [if_pos y, if_pos ⟨rfl, y⟩]
    · rw [if_neg y, if_neg (fun z => y z.2), e4, mI_UI, if_neg (fun z => d1 z.1.symm)]
  · rw [e15, mI_UI, if_neg (fun z => n3 z.1.symm), e12, mI_UI]
    by_cases y : i = k
    · rw [if_pos y, if_pos ⟨rfl, y⟩]
    · rw [if_neg y, if_neg (fun z => y z.2), e8, mI_UI, if_neg (fun z => d3 z.1.symm), e4, mI_UI, if_neg (fun z => d2 z.1.symm)]
/-- a word is added -/
theorem WI.add {s st am : Int} (h : WI M w A B D N k) (hw : wdk N s st am) (h2 : mI M' w 2 = k + 1) (hA : ∀ i, mI M' A i = if i = k then s else mI M A i) (hB : ∀ i, mI M' B i = if i = k then st else mI M B i) (hD : ∀ i, mI M' D i = if i = k then am else mI M D i) : WI M' w A B D N (k + 1) := by
  refine ⟨by rw [h2]; rfl, fun i hi => ?_⟩
  rw [hA, hB, hD]
  by_cases y : i = k
  · rw [if_pos y, if_pos y, if_pos y]
    exact hw
  · rw [if_neg y, if_neg y, if_neg y]
    exact h.2 i (by omega)
end WO
end
section
/-! The class's words: a number, a name, a word. -/
section WO2
variable {G : mG} {d w T A B D N C k : Nat} {M M' M1 : mM}
/-- what nameSort answers -/
def NSs (G : mG) : Prop := ∀ (d w T A B D N C p n : Nat) (M : mM), mOk M → WA M w T A B D N C → p + n ≤ N → 1 ≤ n → n ≤ 40 → Ci G y_Wo_nameSort (d + 5) [vr w, vi p, vi n] M (fun r M' => M' = M ∧ 2 ≤ r ∧ r ≤ 16 ∧ r ≠ 3)
/-- a word has been taken from place p on -/
def twQ (M : mM) (w T A B D N C k p : Nat) (r : Int) (M' : mM) : Prop := mOk M' ∧ FI (woA w A B D) M M' ∧ WA M' w T A B D N C ∧ WI M' w A B D N (k + 1) ∧ ∃ j : Nat, r = j ∧ p < j ∧ j ≤ N
end WO2
end
section
/-! The class's words: reserve, split, same. A frame with growth for the class. -/
section WO3
variable {G : mG} {d w T A B D N C k n : Nat} {M M' M1 M2 : mM} {S R S' R' : Nat → Prop}
/-- old cells keep kind, length and longs; references but in R, ints but in S -/
def FA (S R : Nat → Prop) (M M' : mM) : Prop := (mZ M ≤ mZ M' ∧ mS M ≤ mS M') ∧ ∀ x, x < mZ M → mK M' x = mK M x ∧ mN M' x = mN M x ∧ mL M' x = mL M x ∧ (¬ R x → mR M' x = mR M x) ∧ (¬ S x → mI M' x = mI M x)
theorem FA.refl : FA S R M M := ⟨⟨Nat.le_refl _, Nat.le_refl _⟩, fun _ _ => ⟨rfl, rfl, rfl, fun _ => rfl, fun _ => rfl⟩⟩
theorem FA.trans (h : FA S R M M1) (k : FA S R M1 M2) : FA S R M M2 := by
  obtain ⟨⟨h1, h2⟩, h3⟩ := h
  obtain ⟨⟨k1, k2⟩, k3⟩ := k
  refine ⟨⟨by omega, by omega⟩, fun x hx => ?_⟩
  obtain ⟨a1, a2, a3, a4, a5⟩ := h3 x hx
  obtain ⟨b1, b2, b3, b4, b5⟩ := k3 x (by omega)
  exact ⟨b1.trans a1, b2.trans a2, b3.trans a3, fun z => (b4 z).trans (a4 z), fun z => (b5 z).trans (a5 z)⟩
theorem FA.mono (h : FA S R M M1) (hS : ∀ x, x < mZ M → S x → S' x) (hR : ∀ x, x < mZ M → R x → R' x) : FA S' R' M M1 :=
  ⟨h.1, fun x hx => ⟨(h.2 x hx).1, (h.2 x hx).2.1, (h.2 x hx).2.2.1, fun z => (h.2 x hx).2.2.2.1 (fun y => z (hR x hx y)), fun z => (h.2 x hx).2.2.2.2 (fun y => z (hS x hx y))⟩⟩
/-- a frame of old cells, whatever happens to new ones -/
theorem FA.trans2 (h : FA S R M M1) (k : FA S' R' M1 M2) (hS : ∀ x, x < mZ M → S' x → S x) (hR : ∀ x, x < mZ M → R' x → R x) : FA S R M M2 := by
  obtain ⟨⟨h1, h2⟩, h3⟩ := h
  obtain ⟨⟨k1, k2⟩, k3⟩ := k
  refine ⟨⟨by omega, by omega⟩, fun x hx => ?_⟩
  obtain ⟨a1, a2, a3, a4, a5⟩ := h3 x hx
  obtain ⟨b1, b2, b3, b4, b5⟩ := k3 x (by omega)
  exact ⟨b1.trans a1, b2.trans a2, b3.trans a3, fun z => (b4 (fun y => z (hR x hx y))).trans (a4 z), fun z => (b5 (fun y => z (hS x hx y))).trans (a5 z)⟩
theorem FI.fa (f : FI S M M1) : FA S R M M1 := by
  obtain ⟨f1, f2, f3, f4, f5, f6, f7⟩ := f
  exact ⟨⟨by rw [f5]; exact Nat.le_refl _, by rw [f6]; exact Nat.le_refl _⟩, fun x _ => ⟨by rw [f1], by rw [f2], by rw [f4], fun _ => by rw [f3], fun z => f7 x z⟩⟩
theorem FA.new {k n c : Nat} (e : M1 = mNew M k n c) : FA S R M M1 := by
  subst e
  refine ⟨⟨by rw [mZ_New]; omega, by rw [mS_New]; omega⟩, fun x hx => ?_⟩
  have hne : x ≠ mZ M := by omega
  refine ⟨by rw [mK_New, if_neg hne], by rw [mN_New, if_neg hne], ?_, fun _ => ?_, fun _ => ?_⟩
  · funext j; rw [mL_New, if_neg hne]
  · funext j; rw [mR_New, if_neg hne]
  · funext j; rw [mI_New, if_neg hne]
theorem FA.ur {a j x : Nat} (ha : R a) (e : M1 = mUR M a j x) : FA S R M M1 := by
  subst e
  refine ⟨⟨Nat.le_refl _, Nat.le_refl _⟩, fun b _ => ⟨rfl, rfl, rfl, fun z => ?_, fun _ => rfl⟩⟩
  funext i
  rw [mR_UR, if_neg (fun q => z (by rw [q.1]; exact ha))]
/-- the words' arrays before a split -/
def WB (M : mM) (w A B D C : Nat) : Prop := mK M w = 2 ∧ (mR M w 3 = A ∧ mR M w 4 = B ∧ mR M w 5 = D) ∧ (mK M A = 30 ∧ mK M B = 30 ∧ mK M D = 30) ∧ (mN M A = C ∧ mN M B = C ∧ mN M D = C) ∧ (A ≠ B ∧ A ≠ D ∧ B ≠ D) ∧ (w < mZ M ∧ A < mZ M ∧ B < mZ M ∧ D < mZ M) ∧ 128 ≤ C ∧ C ≤ 40000
/-- how the arrays grew -/
def grw (M : mM) (A B D C : Nat) (M' : mM) (A' B' D' C' : Nat) : Prop := (A' = A ∧ B' = B ∧ D' = D ∧ C' = C ∧ mZ M' = mZ M ∧ mS M' = mS M) ∨ (A' = mZ M ∧ B' = mZ M + 1 ∧ D' = mZ M + 2 ∧ 2 * C ≤ C' ∧ mZ M' = mZ M + 3 ∧ mS M' = mS M + 3 * C')
theorem s_Wo_reserve {q : Nat} (hO : mOk M) (h : WB M w A B D C) (hq : q ≤ 16400) : Cv G y_Wo_reserve d [vr w, vi q] M (fun M' => ∃ A' B' D' C', mOk M' ∧ WB M' w A' B' D' C' ∧ q ≤ C' ∧ C' ≤ C + 2 * q ∧ FA (fun _ => False) (fun x => x = w) M M' ∧ (∀ i, i ≠ 3 → i ≠ 4 → i ≠ 5 → mR M' w i = mR M w i) ∧ grw M A B D C M' A' B' D' C') := by
  obtain ⟨h1, ⟨p3, p4, p5⟩, ⟨k3, k4, k5⟩, ⟨c3, c4, c5⟩, ⟨d1, d2, d3⟩, ⟨z0, z1, z2, z3⟩, b1, b2⟩ := id h
  refine k_Wo_reserve hO ⟨by omega, by omega⟩ ?_
  rw [p3, c3]
  refine ⟨h1, k3, ?_⟩
  have pw : ∀ i, i ≤ 8 → 128 * 2 ^ i ≤ 128 * 2 ^ 8 := by decide
  suffices H : ∀ (t i l : Nat), 8 ≤ i + t → i ≤ 8 → 128 * 2 ^ i ≤ l → ((i = 0 ∧ l = C) ∨ (2 * C ≤ l ∧ l ≤ 2 * q)) → h_Wo_reserve_8 G d w q l i M (fun M' => ∃ A' B' D' C', mOk M' ∧ WB M' w A' B' D' C' ∧ q ≤ C' ∧ C' ≤ C + 2 * q ∧ FA (fun _ => False) (fun x => x = w) M M' ∧ (∀ i, i ≠ 3 → i ≠ 4 → i ≠ 5 → mR M' w i = mR M w i) ∧ grw M A B D C M' A' B' D' C') from H 8 0 C (by omega) (by omega) (by simpa using b1) (Or.inl ⟨rfl, rfl⟩)
  -- the end
  have fin : ∀ {l : Nat}, q ≤ l → (l = C ∨ (2 * C ≤ l ∧ l ≤ 2 * q)) → mK M w = 2 ∧ mK M (mR M w 3) = 30 ∧ i32 (mN M (mR M w 3) : Int) ∧ (((l : Int) ≤ (mN M (mR M w 3) : Int)) → (∃ A' B' D' C', mOk M ∧ WB M w A' B' D' C' ∧ q ≤ C' ∧ C' ≤ C + 2 * q ∧ FA (fun _ => False) (fun x => x = w) M M ∧ (∀ i, i ≠ 3 → i ≠ 4 → i ≠ 5 → mR M w i = mR M w i) ∧ grw M A B D C M A' B' D' C')) ∧ (¬ ((l : Int) ≤ (mN M (mR M w 3) : Int)) → (((0 : Int) ≤ l ∧ (l : Int) ≤ 16777216) ∧ ∀ M16, M16 = mNew M 30 (Int.toNat l) (Int.toNat l) → mK M16 w = 2 ∧ ∀ M19, M19 = mUR M16 w 3 (mZ M) → ((0 : Int) ≤ l ∧ (l : Int) ≤ 16777216) ∧ ∀ M22, M22 = mNew M19 30 (Int.toNat l) (Int.toNat l) → mK M22 w = 2 ∧ ∀ M25, M25 = mUR M22 w 4 (mZ M19) → ((0 : Int) ≤ l ∧ (l : Int) ≤ 16777216) ∧ ∀ M28, M28 = mNew M25 30 (Int.toNat l) (Int.toNat l) → mK M28 w = 2 ∧ ∀ M31, M31 = mUR M28 w 5 (mZ M25) → (∃ A' B' D' C', mOk M31 ∧ WB M31 w A' B' D' C' ∧ q ≤ C' ∧ C' ≤ C + 2 * q ∧ FA (fun _ => False) (fun x => x = w) M M31 ∧ (∀ i, i ≠ 3 → i ≠ 4 → i ≠ 5 → mR M31 w i = mR M w i) ∧ grw M A B D C M31 A' B' D' C'))) := fun {l} hl hd => by
    rw [p3, c3, Int.toNat_natCast]
    refine ⟨h1, k3, ⟨by omega, by omega⟩, fun y => ⟨A, B, D, C, hO, h, by omega, by omega, FA.refl, fun _ _ _ _ => rfl, Or.inl ⟨rfl, rfl, rfl, rfl, rfl, rfl⟩⟩, fun y => ⟨by omega, fun M16 e16 => ?_⟩⟩
    have ew : w ≠ mZ M := by omega
    have g16 : FA (fun _ => False) (fun x => x = w) M M16 := FA.new e16
    have Z16 : mZ M16 = mZ M + 1 := by rw [e16]; rfl
    refine ⟨by rw [(g16.2 w z0).1]; exact h1, fun M19 e19 => ⟨by omega, fun M22 e22 => ?_⟩⟩
    have g19 := g16.trans (FA.ur (S := fun _ => False) (R := fun x => x = w) rfl e19)
    have Z19 : mZ M19 = mZ M + 1 := by rw [e19]; exact Z16
    have g22 := g19.trans (FA.new (S := fun _ => False) (R := fun x => x = w) e22)
    have Z22 : mZ M22 = mZ M + 2 := by rw [e22, mZ_New, Z19]
    refine ⟨by rw [(g22.2 w z0).1]; exact h1, fun M25 e25 => ⟨by omega, fun M28 e28 => ?_⟩⟩
    have g25 := g22.trans (FA.ur (S := fun _ => False) (R := fun x => x = w) rfl e25)
    have Z25 : mZ M25 = mZ M + 2 := by rw [e25]; exact Z22
    have g28 := g25.trans (FA.new (S := fun _ => False) (R := fun x => x = w) e28)
    have Z28 : mZ M28 = mZ M + 3 := by rw [e28, mZ_New, Z25]
    refine ⟨by rw [(g28.2 w z0).1]; exact h1, fun M31 e31 => ?_⟩
    have g31 := g28.trans (FA.ur (S := fun _ => False) (R := fun x => x = w) rfl e31)
    have Z31 : mZ M31 = mZ M + 3 := by rw [e31]; exact Z28
    have S31 : mS M31 = mS M + 3 * l := by
      rw [e31, mS_UR, e28, mS_New, e25, mS_UR, e22, mS_New, e19, mS_UR, e16, mS_New]
      omega
    have K31 : ∀ x, mK M31 x = if x = mZ M + 2 then 30 else if x = mZ M + 1 then 30 else if x = mZ M then 30 else mK M x := fun x => by
      rw [e31, mK_UR, e28, mK_New, Z25, e25, mK_UR, e22, mK_New, Z19, e19, mK_UR, e16, mK_New]
    have N31 : ∀ x, mN M31 x = if x = mZ M + 2 then l else if x = mZ M + 1 then l else if x = mZ M then l else mN M x := fun x => by
      rw [e31, mN_UR, e28, mN_New, Z25, e25, mN_UR, e22, mN_New, Z19, e19, mN_UR, e16, mN_New]
    have R31 : ∀ i, mR M31 w i = if i = 5 then mZ M + 2 else if i = 4 then mZ M + 1 else if i = 3 then mZ M else mR M w i := fun i => by
      rw [e31, mR_UR, Z25]
      by_cases y5 : i = 5
      · rw [if_pos ⟨rfl, y5⟩, if_pos y5]
      · rw [if_neg (fun z => y5 z.2), if_neg y5, e28, mR_New, if_neg (by omega), e25, mR_UR, Z19]
        by_cases y4 : i = 4
        · rw [if_pos ⟨rfl, y4⟩, if_pos y4]
        · rw [if_neg (fun z => y4 z.2), if_neg y4, e22, mR_New, if_neg (by omega), e19, mR_UR]
          by_cases y3 : i = 3
          · rw [if_pos ⟨rfl, y3⟩, if_pos y3]
          · rw [if_neg (fun z => y3 z.2), if_neg y3, e16, mR_New, if_neg ew]
    have o16 : mOk M16 := by rw [e16]; exact mOk_New hO
    have o19 : mOk M19 := by rw [e19]; exact mOk_UR o16
    have o22 : mOk M22 := by rw [e22]; exact mOk_New o19
    have o25 : mOk M25 := by rw [e25]; exact mOk_UR o22
    have o28 : mOk M28 := by rw [e28]; exact mOk_New o25
    have o31 : mOk M31 := by rw [e31]; exact mOk_UR o28
    have l2 : 2 * C ≤ l ∧ l ≤ 2 * q := by omega
    refine ⟨mZ M, mZ M + 1, mZ M + 2, l, o31, ⟨by rw [K31, if_neg (by omega), if_neg (by omega), if_neg ew]; exact h1, ⟨by rw [R31, if_neg (by decide), if_neg (by decide), if_pos rfl], by rw [R31, if_neg (by decide), if_pos rfl], by rw [R31, if_pos rfl]⟩, ⟨by rw [K31, if_neg (by omega), if_neg (by omega), if_pos rfl], by rw [K31, if_neg (by omega), if_pos rfl], by rw [K31, if_pos rfl]⟩, ⟨by rw [N31, if_neg (by omega), if_neg (by omega), if_pos rfl], by rw [N31, if_neg (by omega), if_pos rfl], by rw [N31, if_pos rfl]⟩, ⟨by omega, by omega, by omega⟩, ⟨by omega, by omega, by omega, by omega⟩, by omega, by omega⟩, hl, by omega, g31, fun i i3 i4 i5 => by rw [R31, if_neg i5, if_neg i4, if_neg i3], Or.inr ⟨rfl, rfl, rfl, l2.1, Z31, S31⟩⟩
  intro t
  induction t with
  | zero =>
    intro i l hi hi8 hl hd
    have i8 : i = 8 := by omega
    subst i8
    refine k_Wo_reserve_8 hO ⟨by omega, by omega⟩ ⟨by omega, by omega⟩ ⟨by omega, by omega⟩ ⟨fun y => fin (by omega) (by omega), fun y => absurd (Or.inr (by omega)) y⟩
  | succ t ih =>
    intro i l hi hi8 hl hd
    refine k_Wo_reserve_8 hO ⟨by omega, by omega⟩ ⟨by omega, by omega⟩ ⟨by omega, by omega⟩ ⟨fun y => fin (by omega) (by omega), fun y => ?_⟩
    have y1 : l < q := by omega
    by_cases e8 : i = 8
    · subst e8
      omega
    · have e2 : 128 * 2 ^ (i + 1) = 2 * (128 * 2 ^ i) := by rw [Nat.pow_succ]; omega
      have := ih (i + 1) (l * 2) (by omega) (by omega) (by omega) (Or.inr (by omega))
      rw [show ((l * 2 : Nat) : Int) = (l : Int) * 2 by first | rfl | omega, show ((i + 1 : Nat) : Int) = (i : Int) + 1 by first | rfl | omega] at this
      exact this
end WO3
end
section
/-! The class's words: split, same. -/
section WO4
variable {G : mG} {d w T A B D N C k n : Nat} {M M' M1 M2 : mM}
/-- the words of a tape: n of them, and the end -/
def Wf (M : mM) (w T A B D N C n : Nat) : Prop := WA M w T A B D N C ∧ mI M w 2 = n + 1 ∧ n ≤ N ∧ (∀ i, i < n → wdk N (mI M A i) (mI M B i) (mI M D i)) ∧ mI M A n = 0 ∧ mI M B n = N
theorem WB.wa (h : WB M w A B D C) (hT : mR M w 0 = T) (kT : mK M T = 32) (nT : N ≤ mN M T) (h1 : mI M w 1 = N) (h2 : N ≤ 16384) (h3 : N + 2 ≤ C) : WA M w T A B D N C := by
  obtain ⟨a1, a2, a3, a4, a5, -⟩ := h
  exact ⟨a1, ⟨hT, a2⟩, ⟨kT, nT⟩, a3, a4, h1, h2, h3, a5⟩
theorem WB.fi {S : Nat → Prop} (h : WB M w A B D C) (f : FI S M M') : WB M' w A B D C := by
  obtain ⟨f1, f2, f3, f4, f5, -⟩ := f
  unfold WB at h ⊢
  rw [f1, f2, f3, f5]
  exact h
end WO4
end
section
/-! The class's programs: places, add, clear. -/
section PRG
variable {G : mG} {d z p O P C n : Nat} {M M' M1 M2 : mM} {S : Nat → Prop}
/-- a program's tables -/
def PL (M : mM) (p : Nat) : Prop := (mR M p 4 = p + 3 ∧ mR M p 5 = p + 4 ∧ mR M p 6 = p + 5 ∧ mR M p 8 = p + 6 ∧ mR M p 9 = p + 7 ∧ mR M p 10 = p + 8 ∧ mR M p 13 = p + 9 ∧ mR M p 14 = p + 10 ∧ mR M p 15 = p + 11 ∧ mR M p 16 = p + 12 ∧ mR M p 17 = p + 13 ∧ mR M p 18 = p + 14 ∧ mR M p 19 = p + 15) ∧ (mK M (p + 3) = 30 ∧ mK M (p + 4) = 30 ∧ mK M (p + 5) = 30 ∧ mK M (p + 6) = 30 ∧ mK M (p + 7) = 30 ∧ mK M (p + 8) = 30 ∧ mK M (p + 9) = 30 ∧ mK M (p + 10) = 30 ∧ mK M (p + 11) = 30 ∧ mK M (p + 12) = 30 ∧ mK M (p + 13) = 30 ∧ mK M (p + 14) = 30 ∧ mK M (p + 15) = 30) ∧ (mN M (p + 3) = 12 ∧ mN M (p + 4) = 12 ∧ mN M (p + 5) = 12 ∧ mN M (p + 6) = 60 ∧ mN M (p + 7) = 60 ∧ mN M (p + 8) = 60 ∧ mN M (p + 9) = 60 ∧ mN M (p + 10) = 60 ∧ mN M (p + 11) = 60 ∧ mN M (p + 12) = 61 ∧ mN M (p + 13) = 480 ∧ mN M (p + 14) = 480 ∧ mN M (p + 15) = 480)
/-- a program: O orders, P operands, of C places; z the end of the class's first cells -/
def PK (M : mM) (z p O P C : Nat) : Prop := mK M p = 6 ∧ (mR M p 0 = O ∧ mR M p 1 = P) ∧ (mK M O = 30 ∧ mK M P = 30 ∧ mN M O = C ∧ mN M P = C) ∧ ((O = p + 1 ∨ z ≤ O) ∧ (P = p + 2 ∨ z ≤ P) ∧ O ≠ P ∧ p + 16 ≤ z) ∧ (z ≤ mZ M ∧ O < mZ M ∧ P < mZ M) ∧ (128 ≤ C ∧ C ≤ 40000) ∧ PL M p
theorem PK.fi (h : PK M z p O P C) (f : FI S M M') : PK M' z p O P C := by
  obtain ⟨f1, f2, f3, f4, f5, -⟩ := f
  unfold PK PL at h ⊢
  rw [f1, f2, f3, f5]
  exact h
/-- what adding an order changes -/
def prS (p O P : Nat) : Nat → Prop := fun x => x = p ∨ x = O ∨ x = P
theorem s_Pr_add {o x : Int} (ho : i32 o) (hx : i32 x) (hO : mOk M) (h : PK M z p O P C) (hn : mI M p 2 = n) (hC : n < C) : Ci G y_Pr_add d [vr p, vi o, vi x] M (fun r M' => r = n ∧ mOk M' ∧ FI (prS p O P) M M' ∧ (∀ j, mI M' p j = if j = 2 then (n : Int) + 1 else mI M p j) ∧ (∀ j, mI M' O j = if j = n then o else mI M O j) ∧ (∀ j, mI M' P j = if j = n then x else mI M P j)) := by
  obtain ⟨h1, ⟨r0, r1⟩, ⟨k0, k1, n0, n1⟩, ⟨a0, a1, a2, a3⟩, -, hc, -⟩ := id h
  have e0 : O ≠ p := by omega
  have e1 : P ≠ p := by omega
  refine k_Pr_add hO ho hx ?_
  rw [r0, n0, hn, Int.toNat_natCast]
  refine ⟨h1, k0, ⟨by omega, by omega⟩, fun y => absurd y (by omega), fun _ => ⟨by omega, fun M13 e13 => ?_⟩⟩
  have a13 : mI M13 p = mI M p := by rw [e13]; funext j; rw [mI_UI, if_neg (fun q => e0 q.1.symm)]
  have R13 : mR M13 = mR M := by rw [e13]; rfl
  have K13 : mK M13 = mK M := by rw [e13]; rfl
  have N13 : mN M13 = mN M := by rw [e13]; rfl
  rw [R13, K13, N13, r1, n1, a13, hn, Int.toNat_natCast]
  refine ⟨k1, by omega, fun M17 e17 => ?_⟩
  have a17 : mI M17 p = mI M p := by rw [e17]; funext j; rw [mI_UI, if_neg (fun q => e1 q.1.symm), a13]
  rw [a17, hn]
  refine ⟨⟨by omega, by omega⟩, fun M20 e20 => ?_⟩
  have o13 : mOk M13 := by rw [e13]; exact mOk_UI hO ho
  have o17 : mOk M17 := by rw [e17]; exact mOk_UI o13 hx
  have o20 : mOk M20 := by rw [e20]; exact mOk_UI o17 ⟨by omega, by omega⟩
  have g13 : FI (prS p O P) M M13 := by rw [e13]; exact FI.ui (Or.inr (Or.inl rfl))
  have g17 : FI (prS p O P) M13 M17 := by rw [e17]; exact FI.ui (Or.inr (Or.inr rfl))
  have g20 : FI (prS p O P) M17 M20 := by rw [e20]; exact FI.ui (Or.inl rfl)
  have ap : ∀ j, mI M20 p j = if j = 2 then (n : Int) + 1 else mI M p j := fun j => by
    rw [e20, mI_UI]
    by_cases y : j = 2
    · rw [if_pos ⟨rfl, y⟩, if_pos y]
    · rw [if_neg (fun q => y q.2), if_neg y, a17]
  refine ⟨by rw [ap, if_pos rfl]; omega, o20, (g13.trans g17).trans g20, ap, fun j => ?_, fun j => ?_⟩
  · rw [e20, mI_UI, if_neg (fun q => e0 q.1), e17, mI_UI, if_neg (fun q => a2 q.1), e13, mI_UI]
    by_cases y : j = n
    · rw [if_pos ⟨rfl, y⟩, if_pos y]
    · rw [if_neg (fun q => y q.2), if_neg y]
  · rw [e20, mI_UI, if_neg (fun q => e1 q.1), e17, mI_UI]
    by_cases y : j = n
    · rw [if_pos ⟨rfl, y⟩, if_pos y]
    · rw [if_neg (fun q => y q.2), if_neg y, e13, mI_UI, if_neg (fun q => a2 q.1.symm)]
/-- how a program's arrays grew -/
def grp (M : mM) (O P C : Nat) (M' : mM) (O' P' C' : Nat) : Prop := (O' = O ∧ P' = P ∧ C' = C ∧ mZ M' = mZ M ∧ mS M' = mS M) ∨ (O' = mZ M ∧ P' = mZ M + 1 ∧ 2 * C ≤ C' ∧ mZ M' = mZ M + 2 ∧ mS M' = mS M + 2 * C')
/-- a program that is cleared, with room for q orders -/
def pcQ (M : mM) (z p O P C q : Nat) (M' : mM) : Prop := ∃ O' P' C', mOk M' ∧ PK M' z p O' P' C' ∧ q ≤ C' ∧ C' ≤ C + 2 * q ∧ FA (fun x => x = p ∨ x = p + 12) (fun x => x = p) M M' ∧ (mI M' p 2 = 0 ∧ mI M' p 3 = 0 ∧ mI M' p 7 = 0 ∧ mI M' p 12 = 0 ∧ mI M' p 11 = -1) ∧ mI M' (p + 12) 0 = 0 ∧ grp M O P C M' O' P' C'
theorem s_Pr_clear {q : Nat} (hO : mOk M) (h : PK M z p O P C) (hq : q ≤ 16400) : Cv G y_Pr_clear d [vr p, vi q] M (pcQ M z p O P C q) := by
  have wl : p < mZ M ∧ p + 12 < mZ M := by have := h.2.2.2.1.2.2.2; have := h.2.2.2.2.1.1; omega
  refine k_Pr_clear hO ⟨by omega, by omega⟩ ⟨h.1, fun M2 e2 M4 e4 M6 e6 M8 e8 M10 e10 => ?_⟩
  have f10 : FI (fun x => x = p ∨ x = p + 12) M M10 := by
    have g2 : FI (fun x => x = p ∨ x = p + 12) M M2 := by rw [e2]; exact FI.ui (Or.inl rfl)
    have g4 : FI (fun x => x = p ∨ x = p + 12) M2 M4 := by rw [e4]; exact FI.ui (Or.inl rfl)
    have g6 : FI (fun x => x = p ∨ x = p + 12) M4 M6 := by rw [e6]; exact FI.ui (Or.inl rfl)
    have g8 : FI (fun x => x = p ∨ x = p + 12) M6 M8 := by rw [e8]; exact FI.ui (Or.inl rfl)
    have g10 : FI (fun x => x = p ∨ x = p + 12) M8 M10 := by rw [e10]; exact FI.ui (Or.inl rfl)
    exact (((g2.trans g4).trans g6).trans g8).trans g10
  have o10 : mOk M10 := by
    have o2 : mOk M2 := by rw [e2]; exact mOk_UI hO ⟨by decide, by decide⟩
    have o4 : mOk M4 := by rw [e4]; exact mOk_UI o2 ⟨by decide, by decide⟩
    have o6 : mOk M6 := by rw [e6]; exact mOk_UI o4 ⟨by decide, by decide⟩
    have o8 : mOk M8 := by rw [e8]; exact mOk_UI o6 ⟨by decide, by decide⟩
    rw [e10]; exact mOk_UI o8 ⟨by decide, by decide⟩
  have v10 : mI M10 p 2 = 0 ∧ mI M10 p 3 = 0 ∧ mI M10 p 7 = 0 ∧ mI M10 p 12 = 0 ∧ mI M10 p 11 = -1 := by
    subst e10 e8 e6 e4 e2
    simp [mI_UI]
  have k10 := h.fi f10
  obtain ⟨-, -, -, -, -, -, PL10⟩ := id k10
  rw [show mR M10 p 16 = p + 12 from PL10.1.2.2.2.2.2.2.2.2.2.1, show mN M10 (p + 12) = 61 from PL10.2.2.2.2.2.2.2.2.2.2.2.1]
  refine ⟨PL10.2.1.2.2.2.2.2.2.2.2.2.1, by omega, fun M14 e14 => ?_⟩
  have f14 : FI (fun x => x = p ∨ x = p + 12) M M14 := f10.trans (by rw [e14]; exact FI.ui (Or.inr rfl))
  have o14 : mOk M14 := by rw [e14]; exact mOk_UI o10 ⟨by decide, by decide⟩
  have v14 : (mI M14 p 2 = 0 ∧ mI M14 p 3 = 0 ∧ mI M14 p 7 = 0 ∧ mI M14 p 12 = 0 ∧ mI M14 p 11 = -1) ∧ mI M14 (p + 12) 0 = 0 := by
    have e : mI M14 p = mI M10 p := by rw [e14]; funext j; rw [mI_UI, if_neg (fun y => by omega)]
    rw [e]
    exact ⟨v10, by rw [e14, mI_UI, if_pos ⟨rfl, rfl⟩]⟩
  have k14 := h.fi f14
  have Z14 : mZ M14 = mZ M := f14.2.2.2.2.1
  have S14 : mS M14 = mS M := f14.2.2.2.2.2.1
  clear e2 e4 e6 e8 e10 e14 k10 PL10 v10 o10 f10
  obtain ⟨h1, ⟨r0, r1⟩, ⟨k0, k1, n0, n1⟩, ⟨a0, a1, a2, a3⟩, ⟨z1, z2, z3⟩, ⟨b1, b2⟩, hPL⟩ := id k14
  rw [r0, n0]
  refine ⟨k0, ?_⟩
  suffices H : ∀ (t i l : Nat), 8 ≤ i + t → i ≤ 8 → 128 * 2 ^ i ≤ l → ((i = 0 ∧ l = C) ∨ (2 * C ≤ l ∧ l ≤ 2 * q)) → h_Pr_clear_40 G d p q l i M14 (pcQ M z p O P C q) from H 8 0 C (by omega) (by omega) (by simpa using b1) (Or.inl ⟨rfl, rfl⟩)
  have fin : ∀ {l : Nat}, q ≤ l → (l = C ∨ (2 * C ≤ l ∧ l ≤ 2 * q)) → mK M14 p = 6 ∧ mK M14 (mR M14 p 0) = 30 ∧ i32 (mN M14 (mR M14 p 0) : Int) ∧ (((l : Int) ≤ (mN M14 (mR M14 p 0) : Int)) → (pcQ M z p O P C q M14)) ∧ (¬ ((l : Int) ≤ (mN M14 (mR M14 p 0) : Int)) → (((0 : Int) ≤ l ∧ (l : Int) ≤ 16777216) ∧ ∀ M30, M30 = mNew M14 30 (Int.toNat l) (Int.toNat l) → mK M30 p = 6 ∧ ∀ M33, M33 = mUR M30 p 0 (mZ M14) → ((0 : Int) ≤ l ∧ (l : Int) ≤ 16777216) ∧ ∀ M36, M36 = mNew M33 30 (Int.toNat l) (Int.toNat l) → mK M36 p = 6 ∧ ∀ M39, M39 = mUR M36 p 1 (mZ M33) → pcQ M z p O P C q M39)) := fun {l} hl hd => by
    rw [r0, n0, Int.toNat_natCast]
    have F14 : FA (fun x => x = p ∨ x = p + 12) (fun x => x = p) M M14 := FI.fa f14
    refine ⟨h1, k0, ⟨by omega, by omega⟩, fun y => ⟨O, P, C, o14, k14, by omega, by omega, F14, v14.1, v14.2, Or.inl ⟨rfl, rfl, rfl, Z14, S14⟩⟩, fun y => ⟨by omega, fun M30 e30 => ?_⟩⟩
    have g30 : FA (fun _ => False) (fun x => x = p) M14 M30 := FA.new e30
    have Z30 : mZ M30 = mZ M14 + 1 := by rw [e30]; rfl
    have pz : p < mZ M14 := by omega
    refine ⟨by rw [(g30.2 p pz).1]; exact h1, fun M33 e33 => ⟨by omega, fun M36 e36 => ?_⟩⟩
    have g33 := g30.trans (FA.ur (S := fun _ => False) (R := fun x => x = p) rfl e33)
    have Z33 : mZ M33 = mZ M14 + 1 := by rw [e33]; exact Z30
    have g36 := g33.trans (FA.new (S := fun _ => False) (R := fun x => x = p) e36)
    have Z36 : mZ M36 = mZ M14 + 2 := by rw [e36, mZ_New, Z33]
    refine ⟨by rw [(g36.2 p pz).1]; exact h1, fun M39 e39 => ?_⟩
    have g39 := g36.trans (FA.ur (S := fun _ => False) (R := fun x => x = p) rfl e39)
    have Z39 : mZ M39 = mZ M14 + 2 := by rw [e39]; exact Z36
    have S39 : mS M39 = mS M14 + 2 * l := by
      rw [e39, mS_UR, e36, mS_New, e33, mS_UR, e30, mS_New]
      omega
    have K39 : ∀ x, mK M39 x = if x = mZ M14 + 1 then 30 else if x = mZ M14 then 30 else mK M14 x := fun x => by
      rw [e39, mK_UR, e36, mK_New, Z33, e33, mK_UR, e30, mK_New]
    have N39 : ∀ x, mN M39 x = if x = mZ M14 + 1 then l else if x = mZ M14 then l else mN M14 x := fun x => by
      rw [e39, mN_UR, e36, mN_New, Z33, e33, mN_UR, e30, mN_New]
    have R39 : ∀ i, mR M39 p i = if i = 1 then mZ M14 + 1 else if i = 0 then mZ M14 else mR M14 p i := fun i => by
      rw [e39, mR_UR, Z33]
      by_cases y1 : i = 1
      · rw [if_pos ⟨rfl, y1⟩, if_pos y1]
      · rw [if_neg (fun q => y1 q.2), if_neg y1, e36, mR_New, if_neg (by omega), e33, mR_UR]
        by_cases y0 : i = 0
        · rw [if_pos ⟨rfl, y0⟩, if_pos y0]
        · rw [if_neg (fun q => y0 q.2), if_neg y0, e30, mR_New, if_neg (by omega)]
    have o30 : mOk M30 := by rw [e30]; exact mOk_New o14
    have o33 : mOk M33 := by rw [e33]; exact mOk_UR o30
    have o36 : mOk M36 := by rw [e36]; exact mOk_New o33
    have o39 : mOk M39 := by rw [e39]; exact mOk_UR o36
    have l2 : 2 * C ≤ l ∧ l ≤ 2 * q := by omega
    have pl : PL M39 p := by
      have kk : ∀ i, i ≤ 15 → mK M39 (p + i) = mK M14 (p + i) := fun i hi => (g39.2 (p + i) (by omega)).1
      have nn : ∀ i, i ≤ 15 → mN M39 (p + i) = mN M14 (p + i) := fun i hi => (g39.2 (p + i) (by omega)).2.1
      have rr : ∀ i, i ≠ 0 → i ≠ 1 → mR M39 p i = mR M14 p i := fun i i0 i1 => by rw [R39, if_neg i1, if_neg i0]
      unfold PL at hPL ⊢
      rw [rr 4 (by decide) (by decide), rr 5 (by decide) (by decide), rr 6 (by decide) (by decide), rr 8 (by decide) (by decide), rr 9 (by decide) (by decide), rr 10 (by decide) (by decide), rr 13 (by decide) (by decide), rr 14 (by decide) (by decide), rr 15 (by decide) (by decide), rr 16 (by decide) (by decide), rr 17 (by decide) (by decide), rr 18 (by decide) (by decide), rr 19 (by decide) (by decide), kk 3 (by omega), kk 4 (by omega), kk 5 (by omega), kk 6 (by omega), kk 7 (by omega), kk 8 (by omega), kk 9 (by omega), kk 10 (by omega), kk 11 (by omega), kk 12 (by omega), kk 13 (by omega), kk 14 (by omega), kk 15 (by omega), nn 3 (by omega), nn 4 (by omega), nn 5 (by omega), nn 6 (by omega), nn 7 (by omega), nn 8 (by omega), nn 9 (by omega), nn 10 (by omega), nn 11 (by omega), nn 12 (by omega), nn 13 (by omega), nn 14 (by omega), nn 15 (by omega)]
      exact hPL
    have vI : mI M39 p = mI M14 p := (g39.2 p pz).2.2.2.2 (fun q => q)
    have vJ : mI M39 (p + 12) = mI M14 (p + 12) := (g39.2 (p + 12) (by omega)).2.2.2.2 (fun q => q)
    refine ⟨mZ M14, mZ M14 + 1, l, o39, ⟨by rw [(g39.2 p pz).1]; exact h1, ⟨by rw [R39, if_neg (by decide), if_pos rfl], by rw [R39, if_pos rfl]⟩, ⟨by rw [K39, if_neg (by omega), if_pos rfl], by rw [K39, if_pos rfl], by rw [N39, if_neg (by omega), if_pos rfl], by rw [N39, if_pos rfl]⟩, ⟨Or.inr z1, Or.inr (by omega), by omega, a3⟩, ⟨by omega, by omega, by omega⟩, ⟨by omega, by omega⟩, pl⟩, hl, by omega, F14.trans2 g39 (fun _ _ q => q.elim) (fun _ _ q => q), by rw [vI]; exact v14.1, by rw [vJ]; exact v14.2, Or.inr ⟨by omega, by omega, l2.1, by omega, by omega⟩⟩
  intro t
  induction t with
  | zero =>
    intro i l hi hi8 hl hd
    have i8 : i = 8 := by omega
    subst i8
    refine k_Pr_clear_40 o14 ⟨by omega, by omega⟩ ⟨by omega, by omega⟩ ⟨by omega, by omega⟩ ⟨fun y => fin (by omega) (by omega), fun y => absurd (Or.inr (by omega)) y⟩
  | succ t ih =>
    intro i l hi hi8 hl hd
    refine k_Pr_clear_40 o14 ⟨by omega, by omega⟩ ⟨by omega, by omega⟩ ⟨by omega, by omega⟩ ⟨fun y => fin (by omega) (by omega), fun y => ?_⟩
    have y1 : l < q := by omega
    by_cases e8 : i = 8
    · subst e8
      omega
    · have e2 : 128 * 2 ^ (i + 1) = 2 * (128 * 2 ^ i) := by rw [Nat.pow_succ]; omega
      have := ih (i + 1) (l * 2) (by omega) (by omega) (by omega) (Or.inr (by omega))
      rw [show ((l * 2 : Nat) : Int) = (l : Int) * 2 by first | rfl | omega, show ((i + 1 : Nat) : Int) = (i : Int) + 1 by first | rfl | omega] at this
      exact this
end PRG
end
section
/-! The class's reader of rules: places, and its small steps. -/
section RRD
variable {G : mG} {d z r w T A B D N C n p O P K k a : Nat} {M M' M1 M2 : mM} {S : Nat → Prop}
/-- the reader's places -/
def RK (M : mM) (r : Nat) : Prop := mK M r = 4 ∧ (mR M r 8 = r + 1 ∧ mR M r 9 = r + 2 ∧ mR M r 10 = r + 3 ∧ mR M r 11 = r + 4 ∧ mR M r 13 = r + 5 ∧ mR M r 15 = r + 6 ∧ mR M r 16 = r + 7 ∧ mR M r 17 = r + 8 ∧ mR M r 18 = r + 9) ∧ (mK M (r + 1) = 30 ∧ mK M (r + 2) = 30 ∧ mK M (r + 3) = 30 ∧ mK M (r + 4) = 30 ∧ mK M (r + 5) = 31 ∧ mK M (r + 6) = 30 ∧ mK M (r + 7) = 30 ∧ mK M (r + 8) = 30 ∧ mK M (r + 9) = 31) ∧ (mN M (r + 1) = 336 ∧ mN M (r + 2) = 336 ∧ mN M (r + 3) = 336 ∧ mN M (r + 4) = 336 ∧ mN M (r + 5) = 336 ∧ mN M (r + 6) = 72 ∧ mN M (r + 7) = 72 ∧ mN M (r + 8) = 72 ∧ mN M (r + 9) = 72)
theorem RK.fi (h : RK M r) (f : FI S M M') : RK M' r := by
  obtain ⟨f1, f2, f3, -⟩ := f
  unfold RK at h ⊢
  rw [f1, f2, f3]
  exact h
/-- the cells that reading a rule may change -/
def rdS (r p O P : Nat) : Nat → Prop := fun x => (r ≤ x ∧ x ≤ r + 9) ∨ x = p ∨ x = O ∨ x = P
/-- words, program and reader lie apart -/
def Spr (z r w T A B D p O P : Nat) : Prop := r + 9 < z ∧ (r + 9 < p ∨ p + 15 < r) ∧ ∀ x, (x = w ∨ x = T ∨ x = A ∨ x = B ∨ x = D) → ¬ ((r ≤ x ∧ x ≤ r + 9) ∨ (p ≤ x ∧ x ≤ p + 15) ∨ x = O ∨ x = P)
/-- the reader while it reads: words w, program p -/
def RB (M : mM) (z r w T A B D N C n p O P K : Nat) : Prop := mOk M ∧ RK M r ∧ (mR M r 0 = w ∧ mR M r 1 = p) ∧ Wf M w T A B D N C n ∧ PK M z p O P K ∧ Spr z r w T A B D p O P ∧ n + 1 ≤ K
theorem Wf.fi (h : Wf M w T A B D N C n) (f : FI S M M') (hS : ∀ x, (x = w ∨ x = T ∨ x = A ∨ x = B ∨ x = D) → ¬ S x) : Wf M' w T A B D N C n := by
  obtain ⟨f1, f2, f3, f4, f5, f6, f7⟩ := f
  unfold Wf WA at h ⊢
  rw [f1, f2, f3, f7 w (hS w (Or.inl rfl)), f7 A (hS A (Or.inr (Or.inr (Or.inl rfl)))), f7 B (hS B (Or.inr (Or.inr (Or.inr (Or.inl rfl))))), f7 D (hS D (Or.inr (Or.inr (Or.inr (Or.inr rfl)))))]
  exact h
theorem RB.fi (h : RB M z r w T A B D N C n p O P K) (o : mOk M') (f : FI (rdS r p O P) M M') : RB M' z r w T A B D N C n p O P K := by
  obtain ⟨-, h2, h3, h4, h5, h6, h7⟩ := h
  refine ⟨o, h2.fi f, by rw [f.2.2.1]; exact h3, h4.fi f (fun x hx q => h6.2.2 x hx ?_), h5.fi f, h6, h7⟩
  have q' : (r ≤ x ∧ x ≤ r + 9) ∨ x = p ∨ x = O ∨ x = P := q
  omega
/-- a field of the reader is written -/
theorem rb_fld {j : Nat} {v : Int} (h : RB M z r w T A B D N C n p O P K) (hv : i32 v) (e : M' = mUI M r j v) : RB M' z r w T A B D N C n p O P K ∧ FI (rdS r p O P) M M' ∧ (∀ i, mI M' r i = if i = j then v else mI M r i) ∧ (∀ x, x ≠ r → mI M' x = mI M x) := by
  have f : FI (rdS r p O P) M M' := by rw [e]; exact FI.ui (Or.inl ⟨Nat.le_refl _, by omega⟩)
  refine ⟨h.fi (by rw [e]; exact mOk_UI h.1 hv) f, f, fun i => ?_, fun x hx => ?_⟩
  · rw [e, mI_UI]
    by_cases y : i = j
    · rw [if_pos ⟨rfl, y⟩, if_pos y]
    · rw [if_neg (fun q => y q.2), if_neg y]
  · rw [e]; funext i; rw [mI_UI, if_neg (fun q => hx q.1)]
/-- a place of the reader's tables is written -/
theorem rb_tab {i j : Nat} {v : Int} (h : RB M z r w T A B D N C n p O P K) (h1 : 1 ≤ i) (h9 : i ≤ 9) (hv : i32 v) (e : M' = mUI M (r + i) j v) : RB M' z r w T A B D N C n p O P K ∧ FI (rdS r p O P) M M' ∧ (∀ x, mI M' (r + i) x = if x = j then v else mI M (r + i) x) ∧ (∀ x, x ≠ r + i → mI M' x = mI M x) := by
  have f : FI (rdS r p O P) M M' := by rw [e]; exact FI.ui (Or.inl ⟨by omega, by omega⟩)
  refine ⟨h.fi (by rw [e]; exact mOk_UI h.1 hv) f, f, fun x => ?_, fun x hx => ?_⟩
  · rw [e, mI_UI]
    by_cases y : x = j
    · rw [if_pos ⟨rfl, y⟩, if_pos y]
    · rw [if_neg (fun q => y q.2), if_neg y]
  · rw [e]; funext i; rw [mI_UI, if_neg (fun q => hx q.1)]
theorem s_RR_here (h : RB M z r w T A B D N C n p O P K) (ha : mI M r 2 = a) (han : a ≤ n) : Ci G y_RR_here d [vr r] M (fun x M' => M' = M ∧ x = mI M B a ∧ 0 ≤ x ∧ x ≤ 16384) := by
  obtain ⟨hO, hK, ⟨r0, r1⟩, hW, -⟩ := id h
  obtain ⟨⟨w1, ⟨p0, p3, p4, p5⟩, -, ⟨k3, k4, k5⟩, ⟨c3, c4, c5⟩, w6, w7, w8, -⟩, e2, hnN, hw, hA, hB⟩ := id hW
  refine k_RR_here hO ?_
  rw [r0, p4, ha, Int.toNat_natCast, c4]
  refine ⟨hK.1, w1, k4, by omega, rfl, rfl, ?_⟩
  by_cases y : a = n
  · rw [y, hB]
    omega
  · have := (hw a (by omega)).2.1
    omega
theorem s_RR_accept {x : Int} (hx : i32 x) (h : RB M z r w T A B D N C n p O P K) (ha : mI M r 2 = a) (han : a ≤ n) : Ci G y_RR_accept d [vr r, vi x] M (fun v M' => RB M' z r w T A B D N C n p O P K ∧ ((v = 1 ∧ mI M A a = x ∧ M' = mUI M r 2 ((a : Int) + 1) ∧ mI M' r 2 = a + 1) ∨ (v = 0 ∧ mI M A a ≠ x ∧ M' = M))) := by
  obtain ⟨hO, hK, ⟨r0, r1⟩, hW, -⟩ := id h
  obtain ⟨⟨w1, ⟨p0, p3, p4, p5⟩, -, ⟨k3, k4, k5⟩, ⟨c3, c4, c5⟩, w6, w7, w8, -⟩, e2, hnN, hw, hA, hB⟩ := id hW
  refine k_RR_accept hO hx ?_
  rw [r0, p3, ha, Int.toNat_natCast, c3]
  refine ⟨hK.1, w1, k3, by omega, fun y => ⟨⟨by omega, by omega⟩, fun M9 e9 => ?_⟩, fun y => ⟨h, Or.inr ⟨rfl, y, rfl⟩⟩⟩
  obtain ⟨h9, f9, g9, -⟩ := rb_fld h ⟨by omega, by omega⟩ e9
  exact ⟨h9, Or.inl ⟨rfl, y, e9, by rw [g9, if_pos rfl]⟩⟩
theorem s_RR_note {x y : Int} (hx : i32 x) (hy : i32 y) (h : RB M z r w T A B D N C n p O P K) : Cv G y_RR_note d [vr r, vi x, vi y] M (fun M' => RB M' z r w T A B D N C n p O P K ∧ FI (fun b => b = r) M M' ∧ (∀ i, i ≠ 3 → i ≠ 4 → mI M' r i = mI M r i) ∧ (mI M r 3 = 0 → mI M' r 3 = x) ∧ (mI M r 3 ≠ 0 → mI M' r 3 = mI M r 3)) := by
  refine k_RR_note h.1 hx hy ⟨h.2.1.1, fun e M5 e5 M7 e7 => ?_, fun e => ⟨h, FI.refl, fun _ _ _ => rfl, fun q => absurd q e, fun _ => rfl⟩⟩
  obtain ⟨h5, -, g5, -⟩ := rb_fld h hx e5
  obtain ⟨h7, -, g7, -⟩ := rb_fld h5 hy e7
  have f5 : FI (fun b => b = r) M M5 := by rw [e5]; exact FI.ui rfl
  have f7 : FI (fun b => b = r) M5 M7 := by rw [e7]; exact FI.ui rfl
  exact ⟨h7, f5.trans f7, fun i i3 i4 => by rw [g7, if_neg i4, g5, if_neg i3], fun _ => by rw [g7, if_neg (by decide), g5, if_pos rfl], fun q => absurd e q⟩
/-- how tight an operation binds -/
def lvl (o : Int) : Int := if 19 ≤ o ∧ o ≤ 24 then 4 else if o = 25 ∨ o = 26 then 5 else if 27 ≤ o ∧ o ≤ 29 then 6 else if o = 30 then 2 else if o = 31 then 1 else if o = 41 then 3 else 0
theorem s_RR_level {o : Int} (ho : i32 o) (hO : mOk M) : Ci G y_RR_level d [vi o] M (fun x M' => M' = M ∧ x = lvl o) := by
  refine k_RR_level hO ho ⟨fun q => ⟨rfl, ?_⟩, fun q1 => ⟨fun q => ⟨rfl, ?_⟩, fun q2 => ⟨fun q => ⟨rfl, ?_⟩, fun q3 => ⟨fun q => ⟨rfl, ?_⟩, fun q4 => ⟨fun q => ⟨rfl, ?_⟩, fun q5 => ⟨fun q => ⟨rfl, ?_⟩, fun q6 => ⟨rfl, ?_⟩⟩⟩⟩⟩⟩⟩ <;> unfold lvl <;> (repeat' split) <;> omega
theorem lvl_b (o : Int) : 0 ≤ lvl o ∧ lvl o ≤ 6 := by unfold lvl; (repeat' split) <;> omega
/-- a kind is put on the pile -/
theorem s_RR_pushKind {v : Int} {c : Nat} (hv : v = 0 ∨ v = 1) (h : RB M z r w T A B D N C n p O P K) (hc : mI M r 14 = c) (h3 : c < 336) : Cv G y_RR_pushKind d [vr r, vi v] M (fun M' => RB M' z r w T A B D N C n p O P K ∧ FI (fun b => b = r ∨ b = r + 5) M M' ∧ (∀ i, mI M' r i = if i = 14 then (c : Int) + 1 else mI M r i) ∧ (∀ i, mI M' (r + 5) i = if i = c then v else mI M (r + 5) i)) := by
  obtain ⟨hO, hK, -⟩ := id h
  obtain ⟨k0, ⟨-, -, -, -, q13, -⟩, ⟨-, -, -, -, k5, -⟩, ⟨-, -, -, -, n5, -⟩⟩ := id hK
  refine k_RR_pushKind hO (i32s (by omega) (by omega)) ⟨k0, fun y => absurd y (by omega), fun y => ⟨⟨by omega, by omega⟩, fun M10 e10 => ?_⟩⟩
  rw [hc] at e10
  obtain ⟨h10, -, g10, u10⟩ := rb_fld h ⟨by omega, by omega⟩ e10
  obtain ⟨-, hK10, -⟩ := id h10
  rw [q13, hc, Int.toNat_natCast, show mN M10 (r + 5) = 336 from hK10.2.2.2.2.2.2.2.1]
  refine ⟨hK10.2.2.1.2.2.2.2.1, by omega, hv, fun M15 e15 => ?_⟩
  obtain ⟨h15, -, g15, u15⟩ := rb_tab h10 (i := 5) (by omega) (by omega) (i32s (by omega) (by omega)) e15
  have f10 : FI (fun b => b = r ∨ b = r + 5) M M10 := by rw [e10]; exact FI.ui (Or.inl rfl)
  have f15 : FI (fun b => b = r ∨ b = r + 5) M10 M15 := by rw [e15]; exact FI.ui (Or.inr rfl)
  exact ⟨h15, f10.trans f15, fun i => by rw [u15 r (by omega), g10], fun i => by rw [g15, u10 (r + 5) (by omega)]⟩
/-- a kind is taken -/
theorem s_RR_popKind {c : Nat} (h : RB M z r w T A B D N C n p O P K) (hc : mI M r 14 = ((c + 1 : Nat) : Int)) (h3 : c < 336) : Ci G y_RR_popKind d [vr r] M (fun v M' => (v = 0 ∨ v = 1) ∧ RB M' z r w T A B D N C n p O P K ∧ FI (fun b => b = r) M M' ∧ (∀ i, mI M' r i = if i = 14 then (c : Int) else mI M r i)) := by
  obtain ⟨hO, hK, -⟩ := id h
  obtain ⟨k0, ⟨-, -, -, -, q13, -⟩, ⟨-, -, -, -, k5, -⟩, ⟨-, -, -, -, n5, -⟩⟩ := id hK
  refine k_RR_popKind hO ⟨k0, fun y => ?_, fun v e M9 e9 => ?_⟩
  · have o' : mOk (mUI M r 14 ((mI M r 14) - 1)) := mOk_UI hO ⟨by omega, by omega⟩
    refine ⟨⟨by omega, by omega⟩, ?_⟩
    rw [q13, mK_UI, mN_UI, n5]
    exact ⟨k5, by omega, (o' _ _).1⟩
  · rw [if_neg (by omega), hc, show ((c + 1 : Nat) : Int) - 1 = (c : Int) by first | rfl | omega] at e9
    obtain ⟨h9, -, g9, -⟩ := rb_fld h ⟨by omega, by omega⟩ e9
    refine ⟨h9.1, by rw [e]; split <;> omega, h9, by rw [e9]; exact FI.ui rfl, g9⟩
end RRD
end
