/-! The class's reader: its piles, and what each step makes of them. -/
/-- an open operation: its number, its word, where the operand behind it begins -/
abbrev gqq : Type := Int × Nat × Nat
def xs9 (i0 : Nat) : List gqq → Nat
  | [] => i0
  | g :: _ => g.2.2
def Gop (w E pl O P : Nat → Int) (ec : Nat → Int × Int) (o : Int) (m x b : Nat) (d k : Int) (kn' kn : List Int) (ft' ft : Int × Int) (e' e : Nat) : Prop :=
  (((o = 37 ∧ w m = 36) ∨ (o = 40 ∧ w m = 25) ∨ (o = 41 ∧ w m = 31)) ∧ m = b ∧ x = b + 1 ∧ d = -1 ∧ k = 0 ∧ kn = kn' ∧ ft = ft' ∧ e = e')
  ∨ ((19 ≤ o ∧ o ≤ 29) ∧ w m = o - 1 ∧ x = m + 1 ∧ Eo w (lsq o) b m ∧ d = -1 ∧ k = 0 ∧ kn = kdq w E 0 b m :: kn' ∧ ft = fst9 ft' (fl w E pl 0 b m) ∧ Cd w ec pl O P 0 0 0 b m e' e)
  ∨ ((o = 30 ∨ o = 31) ∧ w m = o - 1 ∧ x = m + 1 ∧ Eo w (lsq o) b m ∧ k = 0 ∧ kn = kdq w E 0 b m :: kn' ∧ ft = fst9 ft' (fl w E pl 0 b m) ∧ ∃ a : Nat, d = a ∧ e = a + 1 ∧ O a = o ∧ Cd w ec pl O P 0 0 0 b m e' a)
  ∨ (o = 33 ∧ w m = 32 ∧ x = m + 1 ∧ Eo w 5 b m ∧ k = (if kdq w E 0 b m = 1 then 0 else 1) ∧ kn = kn' ∧ ft = fst9 ft' (fl w E pl 0 b m) ∧ ∃ a : Nat, d = a ∧ e = a + 1 ∧ O a = 33 ∧ Cd w ec pl O P 0 0 0 b m e' a)
  ∨ (o = 42 ∧ w m = 32 ∧ Eo w 5 b m ∧ m + 1 < x ∧ Eo w 6 (m + 1) (x - 1) ∧ w (x - 1) = 33 ∧ k = (if kdq w E 0 b m = 1 then 0 else 1) + (if kdq w E 0 (m + 1) (x - 1) = 1 then 4 else 0) ∧ kn = kn' ∧ ft = fst9 (fst9 ft' (fl w E pl 0 b m)) (fl w E pl 0 (m + 1) (x - 1)) ∧ ∃ a c : Nat, d = c ∧ e = c + 1 ∧ O a = 33 ∧ P a = (c : Int) + 1 ∧ O c = 42 ∧ Cd w ec pl O P 0 0 0 b m e' a ∧ Cd w ec pl O P 0 0 0 (m + 1) (x - 1) (a + 1) c)
  ∨ ((o = 15 ∨ o = 16) ∧ w m = o - 1 ∧ w (m + 1) = 36 ∧ m = b ∧ d = -1 ∧ kn = kn' ∧ ((x = m + 2 ∧ k = 0 ∧ ft = ft' ∧ e = e') ∨ (m + 2 < x ∧ Eo w 7 (m + 2) (x - 1) ∧ w (x - 1) = 35 ∧ k = 2 + kdq w E 1 (m + 2) (x - 1) ∧ ft = fst9 ft' (fl w E pl 1 (m + 2) (x - 1)) ∧ Cd w ec pl O P 1 o (pl m) (m + 2) (x - 1) e' e)))
def GSq (w E pl O P : Nat → Int) (ec : Nat → Int × Int) (i0 s : Nat) (f0 : Int × Int) : List gqq → List Int → List Int → List Int → Int × Int → Nat → Prop
  | [], od, mq, kn, ft, e => od = [] ∧ mq = [] ∧ kn = [] ∧ ft = f0 ∧ e = s
  | g :: t, od, mq, kn, ft, e => ∃ d od' k mq' kn' ft' e', od = d :: od' ∧ mq = k :: mq' ∧ e' ≤ e ∧ Gop w E pl O P ec g.1 g.2.1 g.2.2 (xs9 i0 t) d k kn' kn ft' ft e' e ∧ GSq w E pl O P ec i0 s f0 t od' mq' kn' ft' e'
/-- an operand of strength c has been read, up to word a -/
def OPq (w E pl O P : Nat → Int) (ec : Nat → Int × Int) (i0 s : Nat) (f0 : Int × Int) (c : Nat) (gs : List gqq) (od mq kn : List Int) (ft : Int × Int) (e a : Nat) : Prop :=
  ∃ kn' ft' e', GSq w E pl O P ec i0 s f0 gs od mq kn' ft' e' ∧ Eo w c (xs9 i0 gs) a ∧ kn = kdq w E 0 (xs9 i0 gs) a :: kn' ∧ ft = fst9 ft' (fl w E pl 0 (xs9 i0 gs) a) ∧ Cd w ec pl O P 0 0 0 (xs9 i0 gs) a e' e
section OR9
variable {w E pl O P O' P' : Nat → Int} {ec : Nat → Int × Int} {i0 s : Nat} {f0 : Int × Int} {gs t : List gqq} {od mq kn : List Int} {ft : Int × Int} {L a m x c : Nat} {o : Int}
theorem kd01 : ∀ (n c i j : Nat), 2 * (j - i) + c ≤ n → (kdq w E c i j = 0 ∨ kdq w E c i j = 1) := by
  intro n
  induction n with
  | zero =>
    intro c i j hn
    rw [kdq, dif_neg (by omega)]
    exact Or.inl rfl
  | succ n ih =>
    intro c i j hn
    have a1 := lcq_le (w := w) (i := i) (j - i)
    have a2 := clq_b (w := w) (m := loq w i j) (j := j)
    rw [kdq]
    by_cases hij : i < j
    · rw [dif_pos hij]
      by_cases hc : c = 1
      · rw [dif_pos hc]
        by_cases hp : lcq w i (j - i) = 0
        · rw [dif_pos hp]
          exact ih _ _ _ (by omega)
        · rw [dif_neg hp]
          split
          · exact Or.inr rfl
          · exact Or.inl rfl
      · rw [dif_neg hc]
        by_cases hm : lin w i j
        · rw [dif_pos hm]
          have a3 := hm.2
          split
          · exact ih _ _ _ (by omega)
          · split
            · exact Or.inr rfl
            · exact Or.inl rfl
        · rw [dif_neg hm]
          split
          · exact ih _ _ _ (by omega)
          · split
            · exact Or.inr rfl
            · split
              · exact Or.inr rfl
              · exact Or.inl rfl
    · rw [dif_neg hij]
      exact Or.inl rfl
theorem kd_01 {c i j : Nat} : kdq w E c i j = 0 ∨ kdq w E c i j = 1 := kd01 _ c i j (Nat.le_refl _)
theorem Gop.cg {m x b : Nat} {d k : Int} {kn' : List Int} {ft' : Int × Int} {e' e : Nat} (h : Gop w E pl O P ec o m x b d k kn' kn ft' ft e' e) (hO : ∀ t, t < e → O' t = O t ∧ P' t = P t) : Gop w E pl O' P' ec o m x b d k kn' kn ft' ft e' e := by
  rcases h with h | ⟨h1, h2, h3, h4, h5, h6, h7, h8, h9⟩ | ⟨h1, h2, h3, h4, h5, h6, h7, a, h8, h9, h10, h11⟩ | ⟨h1, h2, h3, h4, h5, h6, h7, a, h8, h9, h10, h11⟩ | ⟨h1, h2, h3, h4, h5, h6, h7, h8, h9, a, c, k1, k2, k3, k4, k5, k6, k7⟩ | ⟨h1, h2, h3, h4, h5, h6, h7⟩
  · exact Or.inl h
  · exact Or.inr (Or.inl ⟨h1, h2, h3, h4, h5, h6, h7, h8, h9.cg (fun t _ q => hO t q)⟩)
  · exact Or.inr (Or.inr (Or.inl ⟨h1, h2, h3, h4, h5, h6, h7, a, h8, h9, by rw [(hO a (by omega)).1]; exact h10, h11.cg (fun t _ q => hO t (by omega))⟩))
  · exact Or.inr (Or.inr (Or.inr (Or.inl ⟨h1, h2, h3, h4, h5, h6, h7, a, h8, h9, by rw [(hO a (by omega)).1]; exact h10, h11.cg (fun t _ q => hO t (by omega))⟩)))
  · have l7 := k7.lt
    exact Or.inr (Or.inr (Or.inr (Or.inr (Or.inl ⟨h1, h2, h3, h4, h5, h6, h7, h8, h9, a, c, k1, k2, by rw [(hO a (by omega)).1]; exact k3, by rw [(hO a (by omega)).2]; exact k4, by rw [(hO c (by omega)).1]; exact k5, k6.cg (fun t _ q => hO t (by omega)), k7.cg (fun t _ q => hO t (by omega))⟩))))
  · refine Or.inr (Or.inr (Or.inr (Or.inr (Or.inr ⟨h1, h2, h3, h4, h5, h6, ?_⟩))))
    rcases h7 with h7 | ⟨a1, a2, a3, a4, a5, a6⟩
    · exact Or.inl h7
    · exact Or.inr ⟨a1, a2, a3, a4, a5, a6.cg (fun t _ q => hO t q)⟩
theorem GSq.cg : ∀ {gs : List gqq} {od mq kn : List Int} {ft : Int × Int} {e : Nat}, GSq w E pl O P ec i0 s f0 gs od mq kn ft e → (∀ t, t < e → O' t = O t ∧ P' t = P t) → GSq w E pl O' P' ec i0 s f0 gs od mq kn ft e
  | [], od, mq, kn, ft, e, h, _ => h
  | g :: t, od, mq, kn, ft, e, h, hO => by
    obtain ⟨d, od', k, mq', kn', ft', e', h1, h2, h3, h4, h5⟩ := h
    exact ⟨d, od', k, mq', kn', ft', e', h1, h2, h3, h4.cg hO, h5.cg (fun t q => hO t (by omega))⟩
theorem eo_leaf_lo (hw : w a = 1 ∨ w a = 2 ∨ w a = 12 ∨ w a = 13) : lo w a (a + 1) = -1 := lo_none (eo0_leaf hw).pr
/-- a value has been read -/
theorem OPq.val (h : GSq w E pl O P ec i0 s f0 gs od mq kn ft L) (ha : xs9 i0 gs = a) (hw : w a = 1 ∨ w a = 2 ∨ w a = 12 ∨ w a = 13) (hO : ∀ t, t < L → O' t = O t ∧ P' t = P t) (h1 : O' L = (ec a).1) (h2 : P' L = (ec a).2) : OPq w E pl O' P' ec i0 s f0 0 gs od mq (kdq w E 0 a (a + 1) :: kn) (fst9 ft (fl w E pl 0 a (a + 1))) (L + 1) (a + 1) :=
  ⟨kn, ft, L, h.cg hO, by rw [ha]; exact eo0_leaf hw, by rw [ha], by rw [ha], by rw [ha]; exact (Cd_leaf (eo_leaf_lo hw) (by omega) hw).mpr ⟨rfl, h1, h2⟩⟩
/-- a parenthesis, a sign before an operand -/
theorem GSq.pre (h : GSq w E pl O P ec i0 s f0 gs od mq kn ft L) (ha : xs9 i0 gs = a) (ho : (o = 37 ∧ w a = 36) ∨ (o = 40 ∧ w a = 25) ∨ (o = 41 ∧ w a = 31)) : GSq w E pl O P ec i0 s f0 ((o, a, a + 1) :: gs) (-1 :: od) (0 :: mq) kn ft L :=
  ⟨-1, od, 0, mq, kn, ft, L, rfl, rfl, Nat.le_refl _, Or.inl ⟨ho, ha.symm, by rw [ha], rfl, rfl, rfl, rfl, rfl⟩, h⟩
theorem GSq.lst (h : GSq w E pl O P ec i0 s f0 gs od mq kn ft L) (ha : xs9 i0 gs = a) (ho : o = 15 ∨ o = 16) (hw : w a = o - 1) (h1 : w (a + 1) = 36) : GSq w E pl O P ec i0 s f0 ((o, a, a + 2) :: gs) (-1 :: od) (0 :: mq) kn ft L :=
  ⟨-1, od, 0, mq, kn, ft, L, rfl, rfl, Nat.le_refl _, Or.inr (Or.inr (Or.inr (Or.inr (Or.inr ⟨ho, hw, h1, ha.symm, rfl, rfl, Or.inl ⟨rfl, rfl, rfl, rfl⟩⟩)))), h⟩
theorem kft_iff {p q : Prop} {x : Int} (h : p ↔ q) : kft p x = kft q x := by rw [propext h]
theorem cst40 : cst 40 = 0 := by decide
theorem cst41 : cst 41 = 3 := by decide
/-- a sign before an operand is grouped -/
theorem OPq.gpre (h : OPq w E pl O P ec i0 s f0 c ((o, m, x) :: t) od mq kn ft L a) (ho : o = 40 ∨ o = 41) (hc : c ≤ rsq o) : ∃ od' mq' last kn', od = -1 :: od' ∧ mq = 0 :: mq' ∧ kn = last :: kn' ∧ (last = 0 ∨ last = 1) ∧ ∀ O' P' : Nat → Int, (∀ t, t < L → O' t = O t ∧ P' t = P t) → O' L = o → P' L = pl m → OPq w E pl O' P' ec i0 s f0 (cst o) t od' mq' ((if o = 41 then 1 else 0) :: kn') (fst9 ft (kft (last = if o = 41 then 1 else 0) (pl m))) (L + 1) a := by
  obtain ⟨kn', ft', e', ⟨d, od', k, mq', kn1, ft1, e1, g1, g2, g3, g4, g5⟩, h2, h3, h4, h5⟩ := h
  have h2 : Eo w c x a := h2
  have h3 : kn = kdq w E 0 x a :: kn' := h3
  have h4 : ft = fst9 ft' (fl w E pl 0 x a) := h4
  have h5 : Cd w ec pl O P 0 0 0 x a e' L := h5
  have g4 : Gop w E pl O P ec o m x (xs9 i0 t) d k kn1 kn' ft1 ft' e1 e' := g4
  rcases g4 with ⟨q1, q2, q3, q4, q5, q6, q7, q8⟩ | ⟨q1, -⟩ | ⟨q1, -⟩ | ⟨q1, -⟩ | ⟨q1, -⟩ | ⟨q1, -⟩
  · subst q4 q5 q6 q7 q8
    refine ⟨od', mq', _, kn', g1, g2, h3, kd_01, fun O' P' hO hL hP => ?_⟩
    have hx : x = m + 1 := by omega
    subst hx
    have hb : xs9 i0 t = m := q2.symm
    have pr := h2.pr
    have hj := pr.1
    have l5 := h5.lt
    rcases ho with e | e
    · subst e
      have hw : w m = 25 := by omega
      have hc0 : c = 0 := by have : rsq 40 = 0 := by decide
                             omega
      subst hc0
      have eo := eo0_neg hw h2
      have hlo := lo_none eo.pr
      refine ⟨kn', ft', e', g5.cg (fun u v => hO u (by omega)), by rw [hb]; exact eo, by rw [hb, kd_num hlo (by omega) (Or.inl hw), if_neg (by decide)], ?_, ?_⟩
      · rw [hb, fl_neg hlo (by omega) hw, h4, fst9_a, if_neg (by decide)]; rfl
      · rw [hb]
        exact (Cd_pre hlo (by omega) (Or.inl hw)).mpr ⟨L, h5.cg (fun u _ v => hO u v), rfl, by rw [if_pos hw]; exact hL, hP⟩
    · subst e
      have hw : w m = 31 := by omega
      have h3' : Eo w 3 (m + 1) a := h2.le (by have : rsq 41 = 3 := by decide
                                               omega) (by omega)
      have eo := eo3n hw h3'
      have hlo := lo_not eo.pr hw
      refine ⟨kn', ft', e', g5.cg (fun u v => hO u (by omega)), by rw [hb]; exact eo, by rw [hb, kd_tru hlo (by omega) (Or.inl hw), if_pos rfl], ?_, ?_⟩
      · rw [hb, fl_not hlo (by omega) hw, h4, fst9_a, if_pos rfl]; rfl
      · rw [hb]
        exact (Cd_pre hlo (by omega) (Or.inr hw)).mpr ⟨L, h5.cg (fun u _ v => hO u v), rfl, by rw [if_neg (by omega)]; exact hL, hP⟩
  · omega
  · omega
  · omega
  · omega
  · omega
/-- a sign between two operands is grouped -/
theorem OPq.gbin (h : OPq w E pl O P ec i0 s f0 c ((o, m, x) :: t) od mq kn ft L a) (ho : 19 ≤ o ∧ o ≤ 29) (hc : c ≤ rsq o) : ∃ od' mq' last left kn', od = -1 :: od' ∧ mq = 0 :: mq' ∧ kn = last :: left :: kn' ∧ ((last = 0 ∨ last = 1) ∧ (left = 0 ∨ left = 1)) ∧ ∀ O' P' : Nat → Int, (∀ t, t < L → O' t = O t ∧ P' t = P t) → O' L = o → P' L = pl m → OPq w E pl O' P' ec i0 s f0 (cst o) t od' mq' ((if o ≤ 24 then 1 else 0) :: kn') (fst9 ft (kft (okq (o - 1) left last) (pl m))) (L + 1) a := by
  obtain ⟨kn', ft', e', ⟨d, od', k, mq', kn1, ft1, e1, g1, g2, g3, g4, g5⟩, h2, h3, h4, h5⟩ := h
  have h2 : Eo w c x a := h2
  have h3 : kn = kdq w E 0 x a :: kn' := h3
  have h4 : ft = fst9 ft' (fl w E pl 0 x a) := h4
  have h5 : Cd w ec pl O P 0 0 0 x a e' L := h5
  have g4 : Gop w E pl O P ec o m x (xs9 i0 t) d k kn1 kn' ft1 ft' e1 e' := g4
  rcases g4 with ⟨q1, -⟩ | ⟨q1, q2, q3, q4, q5, q6, q7, q8, q9⟩ | ⟨q1, -⟩ | ⟨q1, -⟩ | ⟨q1, -⟩ | ⟨q1, -⟩
  · omega
  · subst q5 q6 q3 q7 q8
    refine ⟨od', mq', _, _, kn1, g1, g2, h3, ⟨kd_01, kd_01⟩, fun O' P' hO hL hP => ?_⟩
    have p2 := h2.pr
    have hj := p2.1
    have l5 := h5.lt
    have l9 := q9.lt
    have p4 := q4.pr.1
    obtain ⟨hlo, eo⟩ := lo_bin q4 (h2.le hc (rsq_le o)) q2 (by omega)
    have htru : (haveI := Classical.propDecidable (tru (w m)); if tru (w m) then (1 : Int) else 0) = if o ≤ 24 then 1 else 0 := by
      by_cases y : o ≤ 24
      · rw [if_pos y, if_pos (by unfold tru; omega)]
      · rw [if_neg y, if_neg (by unfold tru; omega)]
    refine ⟨kn1, ft1, e1, g5.cg (fun u v => hO u (by omega)), eo, ?_, ?_, ?_⟩
    · rw [kd_bin hlo (by omega) (by omega) (by omega), htru]
    · rw [fl_bin hlo (by omega) (by omega) (by omega), h4, q2, fst9_a, fst9_a, fst9_a]
    · exact (Cd_bin hlo (by omega) (by omega) (by omega) (by omega) (by omega)).mpr ⟨e', L, q9.cg (fun u _ v => hO u (by omega)), h5.cg (fun u _ v => hO u v), rfl, by rw [q2, hL]; omega, hP⟩
  · omega
  · omega
  · omega
  · omega
/-- '&' or '|' is grouped -/
theorem OPq.gjmp (h : OPq w E pl O P ec i0 s f0 c ((o, m, x) :: t) od mq kn ft L a) (ho : o = 30 ∨ o = 31) (hc : c ≤ rsq o) : ∃ (d : Nat) (od' mq' : List Int) (last left : Int) (kn' : List Int), od = (d : Int) :: od' ∧ mq = 0 :: mq' ∧ kn = last :: left :: kn' ∧ ((last = 0 ∨ last = 1) ∧ (left = 0 ∨ left = 1)) ∧ d < L ∧ ∀ O' P' : Nat → Int, (∀ t, t < L → O' t = O t) → (∀ t, t < L → t ≠ d → P' t = P t) → P' d = L → OPq w E pl O' P' ec i0 s f0 (cst o) t od' mq' (1 :: kn') (fst9 ft (kft (okq (o - 1) left last) (pl m))) L a := by
  obtain ⟨kn', ft', e', ⟨d, od', k, mq', kn1, ft1, e1, g1, g2, g3, g4, g5⟩, h2, h3, h4, h5⟩ := h
  have h2 : Eo w c x a := h2
  have h3 : kn = kdq w E 0 x a :: kn' := h3
  have h4 : ft = fst9 ft' (fl w E pl 0 x a) := h4
  have h5 : Cd w ec pl O P 0 0 0 x a e' L := h5
  have g4 : Gop w E pl O P ec o m x (xs9 i0 t) d k kn1 kn' ft1 ft' e1 e' := g4
  rcases g4 with ⟨q1, -⟩ | ⟨q1, -⟩ | ⟨q1, q2, q3, q4, q6, q7, q8, d9, r1, r2, r3, q9⟩ | ⟨q1, -⟩ | ⟨q1, -⟩ | ⟨q1, -⟩
  · omega
  · omega
  · subst q6 q3 q7 q8 r1 r2
    have p2 := h2.pr
    have hj := p2.1
    have l5 := h5.lt
    have l9 := q9.lt
    have p4 := q4.pr.1
    refine ⟨d9, od', mq', _, _, kn1, g1, g2, h3, ⟨kd_01, kd_01⟩, by omega, fun O' P' hO hP hd => ?_⟩
    obtain ⟨hlo, eo⟩ := lo_bin q4 (h2.le hc (rsq_le o)) q2 (by omega)
    have htru : (haveI := Classical.propDecidable (tru (w m)); if tru (w m) then (1 : Int) else 0) = 1 := by
      rw [if_pos (by unfold tru; omega)]
    refine ⟨kn1, ft1, e1, g5.cg (fun u v => ⟨hO u (by omega), hP u (by omega) (by omega)⟩), eo, ?_, ?_, ?_⟩
    · rw [kd_bin hlo (by omega) (by omega) (by omega), htru]
    · rw [fl_bin hlo (by omega) (by omega) (by omega), h4, q2, fst9_a, fst9_a, fst9_a]
    · exact (Cd_jmp hlo (by omega) (by omega) (by omega)).mpr ⟨d9, q9.cg (fun u _ v => ⟨hO u (by omega), hP u (by omega) (by omega)⟩), by rw [hO d9 (by omega), r3, q2]; omega, hd, h5.cg (fun u v1 v => ⟨hO u v, hP u v (by omega)⟩)⟩
  · omega
  · omega
  · omega
/-- a '?' with its ':' is grouped -/
theorem OPq.gels (h : OPq w E pl O P ec i0 s f0 c ((42, m, x) :: t) od mq kn ft L a) (hc : c ≤ 6) : ∃ (d : Nat) (od' : List Int) (k : Int) (mq' : List Int) (last : Int) (kn' : List Int), od = (d : Int) :: od' ∧ mq = k :: mq' ∧ kn = last :: kn' ∧ ((last = 0 ∨ last = 1) ∧ 0 ≤ k ∧ k ≤ 5) ∧ d < L ∧ ∀ O' P' : Nat → Int, (∀ t, t < L → O' t = O t) → (∀ t, t < L → t ≠ d → P' t = P t) → P' d = L → OPq w E pl O' P' ec i0 s f0 6 t od' mq' (last :: kn') (fst9 ft (kft (k = if last = 1 then 4 else 0) (pl m))) L a := by
  obtain ⟨kn', ft', e', ⟨d, od', k, mq', kn1, ft1, e1, g1, g2, g3, g4, g5⟩, h2, h3, h4, h5⟩ := h
  have h2 : Eo w c x a := h2
  have h3 : kn = kdq w E 0 x a :: kn' := h3
  have h4 : ft = fst9 ft' (fl w E pl 0 x a) := h4
  have h5 : Cd w ec pl O P 0 0 0 x a e' L := h5
  have g4 : Gop w E pl O P ec 42 m x (xs9 i0 t) d k kn1 kn' ft1 ft' e1 e' := g4
  rcases g4 with ⟨q1, -⟩ | ⟨q1, -⟩ | ⟨q1, -⟩ | ⟨q1, -⟩ | ⟨q1, q2, q3, q4, q5, q6, q7, q8, q9, d1, d2, r1, r2, r3, r4, r5, r6, r7⟩ | ⟨q1, -⟩
  · omega
  · omega
  · omega
  · omega
  · subst q8 q9 r1 r2
    have p2 := h2.pr
    have hj := p2.1
    have l5 := h5.lt
    have l6 := r6.lt
    have l7 := r7.lt
    have p3 := q3.pr
    have ex1 : x - 1 + 1 = x := by omega
    have k1 := kd_01 (w := w) (E := E) (c := 0) (i := xs9 i0 t) (j := m)
    have k2 := kd_01 (w := w) (E := E) (c := 0) (i := m + 1) (j := x - 1)
    have k3 := kd_01 (w := w) (E := E) (c := 0) (i := x) (j := a)
    refine ⟨d2, od', k, mq', _, kn', g1, g2, h3, ⟨k3, by rw [q7]; (repeat' split) <;> omega, by rw [q7]; (repeat' split) <;> omega⟩, by omega, fun O' P' hO hP hd => ?_⟩
    have hlo := lo_ask p3 q2 (j := a) (by omega)
    have hcl : clq w m a = x - 1 := clq_eo q5 q6 (by omega)
    have eo : Eo w 6 (xs9 i0 t) a := eo6 q2 q6 q3 q5 (by rw [ex1]; exact h2.le hc (by omega))
    refine ⟨kn', ft1, e1, g5.cg (fun u v => ⟨hO u (by omega), hP u (by omega) (by omega)⟩), eo, ?_, ?_, ?_⟩
    · rw [kd_ask hlo (Nat.le_of_lt p3.1) (by omega) q2 hcl, ex1]
    · rw [fl_ask hlo (Nat.le_of_lt p3.1) (by omega) q2 hcl, h4, ex1, fst9_a, fst9_a, fst9_a, fst9_a, fst9_a]
      refine congrArg (fun z => fst9 ft1 (fst9 _ (fst9 _ (fst9 _ z)))) (kft_iff ?_)
      rw [q7]
      rcases k1 with k1 | k1 <;> rcases k2 with k2 | k2 <;> rcases k3 with k3 | k3 <;> rw [k1, k2, k3] <;> decide
    · refine (Cd_ask hlo (Nat.le_of_lt p3.1) (by omega) q2 hcl).mpr ⟨d1, d2, r6.cg (fun u _ v => ⟨hO u (by omega), hP u (by omega) (by omega)⟩), by rw [hO d1 (by omega)]; exact r3, by rw [hP d1 (by omega) (by omega)]; exact r4, r7.cg (fun u _ v => ⟨hO u (by omega), hP u (by omega) (by omega)⟩), by rw [hO d2 (by omega)]; exact r5, hd, ?_⟩
      rw [ex1]
      exact h5.cg (fun u v1 v => ⟨hO u v, hP u v (by omega)⟩)
  · omega
end OR9
