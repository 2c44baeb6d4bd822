section
section
/-! The class's reader: its piles, and what each step makes of them. -/
/-- an open operation: its number, its word, where the operand behind it begins -/
abbrev gqq : Type := Int × Nat × Nat
def xs9 (i0 : Nat) : List gqq → Nat
  | [] => i0
  | g :: _ => g.2.2
def Gop (w E pl O P : Nat → Int) (ec : Nat → Int × Int) (o : Int) (m x b : Nat) (d k : Int) (kn' kn : List Int) (ft' ft : Int × Int) (e' e : Nat) : Prop :=
  (((o = 37 ∧ w m = 36) ∨ (o = 40 ∧ w m = 25) ∨ (o = 41 ∧ w m = 31)) ∧ m = b ∧ x = b + 1 ∧ d = -1 ∧ k = 0 ∧ kn = kn' ∧ ft = ft' ∧ e = e')
  ∨ ((19 ≤ o ∧ o ≤ 29) ∧ w m = o - 1 ∧ x = m + 1 ∧ Eo w (lsq o) b m ∧ d = -1 ∧ k = 0 ∧ kn = kdq w E 0 b m :: kn' ∧ ft = fst9 ft' (fl w E pl 0 b m) ∧ Cd w ec pl O P 0 0 0 b m e' e)
  ∨ ((o = 30 ∨ o = 31) ∧ w m = o - 1 ∧ x = m + 1 ∧ Eo w (lsq o) b m ∧ k = 0 ∧ kn = kdq w E 0 b m :: kn' ∧ ft = fst9 ft' (fl w E pl 0 b m) ∧ ∃ a : Nat, d = a ∧ e = a + 1 ∧ O a = o ∧ Cd w ec pl O P 0 0 0 b m e' a)
  ∨ (o = 33 ∧ w m = 32 ∧ x = m + 1 ∧ Eo w 5 b m ∧ k = (if kdq w E 0 b m = 1 then 0 else 1) ∧ kn = kn' ∧ ft = fst9 ft' (fl w E pl 0 b m) ∧ ∃ a : Nat, d = a ∧ e = a + 1 ∧ O a = 33 ∧ Cd w ec pl O P 0 0 0 b m e' a)
  ∨ (o = 42 ∧ w m = 32 ∧ Eo w 5 b m ∧ m + 1 < x ∧ Eo w 6 (m + 1) (x - 1) ∧ w (x - 1) = 33 ∧ k = (if kdq w E 0 b m = 1 then 0 else 1) + (if kdq w E 0 (m + 1) (x - 1) = 1 then 4 else 0) ∧ kn = kn' ∧ ft = fst9 (fst9 ft' (fl w E pl 0 b m)) (fl w E pl 0 (m + 1) (x - 1)) ∧ ∃ a c : Nat, d = c ∧ e = c + 1 ∧ O a = 33 ∧ P a = (c : Int) + 1 ∧ O c = 42 ∧ Cd w ec pl O P 0 0 0 b m e' a ∧ Cd w ec pl O P 0 0 0 (m + 1) (x - 1) (a + 1) c)
  ∨ ((o = 15 ∨ o = 16) ∧ w m = o - 1 ∧ w (m + 1) = 36 ∧ m = b ∧ d = -1 ∧ kn = kn' ∧ ((x = m + 2 ∧ k = 0 ∧ ft = ft' ∧ e = e') ∨ (m + 2 < x ∧ Eo w 7 (m + 2) (x - 1) ∧ w (x - 1) = 35 ∧ k = 2 + kdq w E 1 (m + 2) (x - 1) ∧ ft = fst9 ft' (fl w E pl 1 (m + 2) (x - 1)) ∧ Cd w ec pl O P 1 o (pl m) (m + 2) (x - 1) e' e)))
def GSq (w E pl O P : Nat → Int) (ec : Nat → Int × Int) (i0 s : Nat) (f0 : Int × Int) : List gqq → List Int → List Int → List Int → Int × Int → Nat → Prop
  | [], od, mq, kn, ft, e => od = [] ∧ mq = [] ∧ kn = [] ∧ ft = f0 ∧ e = s
  | g :: t, od, mq, kn, ft, e => ∃ d od' k mq' kn' ft' e', od = d :: od' ∧ mq = k :: mq' ∧ e' ≤ e ∧ Gop w E pl O P ec g.1 g.2.1 g.2.2 (xs9 i0 t) d k kn' kn ft' ft e' e ∧ GSq w E pl O P ec i0 s f0 t od' mq' kn' ft' e'
/-- an operand of strength c has been read, up to word a -/
def OPq (w E pl O P : Nat → Int) (ec : Nat → Int × Int) (i0 s : Nat) (f0 : Int × Int) (c : Nat) (gs : List gqq) (od mq kn : List Int) (ft : Int × Int) (e a : Nat) : Prop :=
  ∃ kn' ft' e', GSq w E pl O P ec i0 s f0 gs od mq kn' ft' e' ∧ Eo w c (xs9 i0 gs) a ∧ kn = kdq w E 0 (xs9 i0 gs) a :: kn' ∧ ft = fst9 ft' (fl w E pl 0 (xs9 i0 gs) a) ∧ Cd w ec pl O P 0 0 0 (xs9 i0 gs) a e' e
section OR9
variable {w E pl O P O' P' : Nat → Int} {ec : Nat → Int × Int} {i0 s : Nat} {f0 : Int × Int} {gs t : List gqq} {od mq kn : List Int} {ft : Int × Int} {L a m x c : Nat} {o : Int}
theorem kd01 : ∀ (n c i j : Nat), 2 * (j - i) + c ≤ n → (kdq w E c i j = 0 ∨ kdq w E c i j = 1) := by
  intro n
  induction n with
  | zero =>
    intro c i j hn
    rw [kdq, dif_neg (by omega)]
    exact Or.inl rfl
  | succ n ih =>
    intro c i j hn
    have a1 := lcq_le (w := w) (i := i) (j - i)
    have a2 := clq_b (w := w) (m := loq w i j) (j := j)
    rw [kdq]
    by_cases hij : i < j
    · rw [dif_pos hij]
      by_cases hc : c = 1
      · rw [dif_pos hc]
        by_cases hp : lcq w i (j - i) = 0
        · rw [dif_pos hp]
          exact ih _ _ _ (by omega)
        · rw [dif_neg hp]
          split
          · exact Or.inr rfl
          · exact Or.inl rfl
      · rw [dif_neg hc]
        by_cases hm : lin w i j
        · rw [dif_pos hm]
          have a3 := hm.2
          split
          · exact ih _ _ _ (by omega)
          · split
            · exact Or.inr rfl
            · exact Or.inl rfl
        · rw [dif_neg hm]
          split
          · exact ih _ _ _ (by omega)
          · split
            · exact Or.inr rfl
            · split
              · exact Or.inr rfl
              · exact Or.inl rfl
    · rw [dif_neg hij]
      exact Or.inl rfl
theorem kd_01 {c i j : Nat} : kdq w E c i j = 0 ∨ kdq w E c i j = 1 := kd01 _ c i j (Nat.le_refl _)
theorem Gop.cg {m x b : Nat} {d k : Int} {kn' : List Int} {ft' : Int × Int} {e' e : Nat} (h : Gop w E pl O P ec o m x b d k kn' kn ft' ft e' e) (hO : ∀ t, t < e → O' t = O t ∧ P' t = P t) : Gop w E pl O' P' ec o m x b d k kn' kn ft' ft e' e := by
  rcases h with h | ⟨h1, h2, h3, h4, h5, h6, h7, h8, h9⟩ | ⟨h1, h2, h3, h4, h5, h6, h7, a, h8, h9, h10, h11⟩ | ⟨h1, h2, h3, h4, h5, h6, h7, a, h8, h9, h10, h11⟩ | ⟨h1, h2, h3, h4, h5, h6, h7, h8, h9, a, c, k1, k2, k3, k4, k5, k6, k7⟩ | ⟨h1, h2, h3, h4, h5, h6, h7⟩
  · exact Or.inl h
  · exact Or.inr (Or.inl ⟨h1, h2, h3, h4, h5, h6, h7, h8, h9.cg (fun t _ q => hO t q)⟩)
  · exact Or.inr (Or.inr (Or.inl ⟨h1, h2, h3, h4, h5, h6, h7, a, h8, h9, by rw [(hO a (by omega)).1]; exact h10, h11.cg (fun t _ q => hO t (by omega))⟩))
  · exact Or.inr (Or.inr (Or.inr (Or.inl ⟨h1, h2, h3, h4, h5, h6, h7, a, h8, h9, by rw [(hO a (by omega)).1]; exact h10, h11.cg (fun t _ q => hO t (by omega))⟩)))
  · have l7 := k7.lt
    exact Or.inr (Or.inr (Or.inr (Or.inr (Or.inl ⟨h1, h2, h3, h4, h5, h6, h7, h8, h9, a, c, k1, k2, by rw [(hO a (by omega)).1]; exact k3, by rw [(hO a (by omega)).2]; exact k4, by rw [(hO c (by omega)).1]; exact k5, k6.cg (fun t _ q => hO t (by omega)), k7.cg (fun t _ q => hO t (by omega))⟩))))
  · refine Or.inr (Or.inr (Or.inr (Or.inr (Or.inr ⟨h1, h2, h3, h4, h5, h6, ?_⟩))))
    rcases h7 with h7 | ⟨a1, a2, a3, a4, a5, a6⟩
    · exact Or.inl h7
    · exact Or.inr ⟨a1, a2, a3, a4, a5, a6.cg (fun t _ q => hO t q)⟩
theorem GSq.cg : ∀ {gs : List gqq} {od mq kn : List Int} {ft : Int × Int} {e : Nat}, GSq w E pl O P ec i0 s f0 gs od mq kn ft e → (∀ t, t < e → O' t = O t ∧ P' t = P t) → GSq w E pl O' P' ec i0 s f0 gs od mq kn ft e
  | [], od, mq, kn, ft, e, h, _ => h
  | g :: t, od, mq, kn, ft, e, h, hO => by
    obtain ⟨d, od', k, mq', kn', ft', e', h1, h2, h3, h4, h5⟩ := h
    exact ⟨d, od', k, mq', kn', ft', e', h1, h2, h3, h4.cg hO, h5.cg (fun t q => hO t (by omega))⟩
theorem eo_leaf_lo (hw : w a = 1 ∨ w a = 2 ∨ w a = 12 ∨ w a = 13) : lo w a (a + 1) = -1 := lo_none (eo0_leaf hw).pr
/-- a value has been read -/
theorem OPq.val (h : GSq w E pl O P ec i0 s f0 gs od mq kn ft L) (ha : xs9 i0 gs = a) (hw : w a = 1 ∨ w a = 2 ∨ w a = 12 ∨ w a = 13) (hO : ∀ t, t < L → O' t = O t ∧ P' t = P t) (h1 : O' L = (ec a).1) (h2 : P' L = (ec a).2) : OPq w E pl O' P' ec i0 s f0 0 gs od mq (kdq w E 0 a (a + 1) :: kn) (fst9 ft (fl w E pl 0 a (a + 1))) (L + 1) (a + 1) :=
  ⟨kn, ft, L, h.cg hO, by rw [ha]; exact eo0_leaf hw, by rw [ha], by rw [ha], by rw [ha]; exact (Cd_leaf (eo_leaf_lo hw) (by omega) hw).mpr ⟨rfl, h1, h2⟩⟩
/-- a parenthesis, a sign before an operand -/
theorem GSq.pre (h : GSq w E pl O P ec i0 s f0 gs od mq kn ft L) (ha : xs9 i0 gs = a) (ho : (o = 37 ∧ w a = 36) ∨ (o = 40 ∧ w a = 25) ∨ (o = 41 ∧ w a = 31)) : GSq w E pl O P ec i0 s f0 ((o, a, a + 1) :: gs) (-1 :: od) (0 :: mq) kn ft L :=
  ⟨-1, od, 0, mq, kn, ft, L, rfl, rfl, Nat.le_refl _, Or.inl ⟨ho, ha.symm, by rw [ha], rfl, rfl, rfl, rfl, rfl⟩, h⟩
theorem GSq.lst (h : GSq w E pl O P ec i0 s f0 gs od mq kn ft L) (ha : xs9 i0 gs = a) (ho : o = 15 ∨ o = 16) (hw : w a = o - 1) (h1 : w (a + 1) = 36) : GSq w E pl O P ec i0 s f0 ((o, a, a + 2) :: gs) (-1 :: od) (0 :: mq) kn ft L :=
  ⟨-1, od, 0, mq, kn, ft, L, rfl, rfl, Nat.le_refl _, Or.inr (Or.inr (Or.inr (Or.inr (Or.inr ⟨ho, hw, h1, ha.symm, rfl, rfl, Or.inl ⟨rfl, rfl, rfl, rfl⟩⟩)))), h⟩
theorem kft_iff {p q : Prop} {x : Int} (h : p ↔ q) : kft p x = kft q x := by rw [propext h]
/-- a sign before an operand is grouped -/
theorem OPq.gpre (h : OPq w E pl O P ec i0 s f0 c ((o, m, x) :: t) od mq kn ft L a) (ho : o = 40 ∨ o = 41) (hc : c ≤ rsq o) : ∃ od' mq' last kn', od = -1 :: od' ∧ mq = 0 :: mq' ∧ kn = last :: kn' ∧ (last = 0 ∨ last = 1) ∧ ∀ O' P' : Nat → Int, (∀ t, t < L → O' t = O t ∧ P' t = P t) → O' L = o → P' L = pl m → OPq w E pl O' P' ec i0 s f0 (cst o) t od' mq' ((if o = 41 then 1 else 0) :: kn') (fst9 ft (kft (last = if o = 41 then 1 else 0) (pl m))) (L + 1) a := by
  obtain ⟨kn', ft', e', ⟨d, od', k, mq', kn1, ft1, e1, g1, g2, g3, g4, g5⟩, h2, h3, h4, h5⟩ := h
  have h2 : Eo w c x a := h2
  have h3 : kn = kdq w E 0 x a :: kn' := h3
  have h4 : ft = fst9 ft' (fl w E pl 0 x a) := h4
  have h5 : Cd w ec pl O P 0 0 0 x a e' L := h5
  have g4 : Gop w E pl O P ec o m x (xs9 i0 t) d k kn1 kn' ft1 ft' e1 e' := g4
  rcases g4 with ⟨q1, q2, q3, q4, q5, q6, q7, q8⟩ | ⟨q1, -⟩ | ⟨q1, -⟩ | ⟨q1, -⟩ | ⟨q1, -⟩ | ⟨q1, -⟩
  · subst q4 q5 q6 q7 q8
    refine ⟨od', mq', _, kn', g1, g2, h3, kd_01, fun O' P' hO hL hP => ?_⟩
    have hx : x = m + 1 := by omega
    subst hx
    have hb : xs9 i0 t = m := q2.symm
    have pr := h2.pr
    have hj := pr.1
    have l5 := h5.lt
    rcases ho with e | e
    · subst e
      have hw : w m = 25 := by omega
      have hc0 : c = 0 := by have : rsq 40 = 0 := by decide
                             omega
      subst hc0
      have eo := eo0_neg hw h2
      have hlo := lo_none eo.pr
      refine ⟨kn', ft', e', g5.cg (fun u v => hO u (by omega)), by rw [hb]; exact eo, by rw [hb, kd_num hlo (by omega) (Or.inl hw), if_neg (by decide)], ?_, ?_⟩
      · rw [hb, fl_neg hlo (by omega) hw, h4, fst9_a, if_neg (by decide)]; rfl
      · rw [hb]
        exact (Cd_pre hlo (by omega) (Or.inl hw)).mpr ⟨L, h5.cg (fun u _ v => hO u v), rfl, by rw [if_pos hw]; exact hL, hP⟩
    · subst e
      have hw : w m = 31 := by omega
      have h3' : Eo w 3 (m + 1) a := h2.le (by have : rsq 41 = 3 := by decide
                                               omega) (by omega)
      have eo := eo3n hw h3'
      have hlo := lo_not eo.pr hw
      refine ⟨kn', ft', e', g5.cg (fun u v => hO u (by omega)), by rw [hb]; exact eo, by rw [hb, kd_tru hlo (by omega) (Or.inl hw), if_pos rfl], ?_, ?_⟩
      · rw [hb, fl_not hlo (by omega) hw, h4, fst9_a, if_pos rfl]; rfl
      · rw [hb]
        exact (Cd_pre hlo (by omega) (Or.inr hw)).mpr ⟨L, h5.cg (fun u _ v => hO u v), rfl, by rw [if_neg (by omega)]; exact hL, hP⟩
  · omega
  · omega
  · omega
  · omega
  · omega
/-- a sign between two operands is grouped -/
theorem OPq.gbin (h : OPq w E pl O P ec i0 s f0 c ((o, m, x) :: t) od mq kn ft L a) (ho : 19 ≤ o ∧ o ≤ 29) (hc : c ≤ rsq o) : ∃ od' mq' last left kn', od = -1 :: od' ∧ mq = 0 :: mq' ∧ kn = last :: left :: kn' ∧ ((last = 0 ∨ last = 1) ∧ (left = 0 ∨ left = 1)) ∧ ∀ O' P' : Nat → Int, (∀ t, t < L → O' t = O t ∧ P' t = P t) → O' L = o → P' L = pl m → OPq w E pl O' P' ec i0 s f0 (cst o) t od' mq' ((if o ≤ 24 then 1 else 0) :: kn') (fst9 ft (kft (okq (o - 1) left last) (pl m))) (L + 1) a := by
  obtain ⟨kn', ft', e', ⟨d, od', k, mq', kn1, ft1, e1, g1, g2, g3, g4, g5⟩, h2, h3, h4, h5⟩ := h
  have h2 : Eo w c x a := h2
  have h3 : kn = kdq w E 0 x a :: kn' := h3
  have h4 : ft = fst9 ft' (fl w E pl 0 x a) := h4
  have h5 : Cd w ec pl O P 0 0 0 x a e' L := h5
  have g4 : Gop w E pl O P ec o m x (xs9 i0 t) d k kn1 kn' ft1 ft' e1 e' := g4
  rcases g4 with ⟨q1, -⟩ | ⟨q1, q2, q3, q4, q5, q6, q7, q8, q9⟩ | ⟨q1, -⟩ | ⟨q1, -⟩ | ⟨q1, -⟩ | ⟨q1, -⟩
  · omega
  · subst q5 q6 q3 q7 q8
    refine ⟨od', mq', _, _, kn1, g1, g2, h3, ⟨kd_01, kd_01⟩, fun O' P' hO hL hP => ?_⟩
    have p2 := h2.pr
    have hj := p2.1
    have l5 := h5.lt
    have l9 := q9.lt
    have p4 := q4.pr.1
    obtain ⟨hlo, eo⟩ := lo_bin q4 (h2.le hc (rsq_le o)) q2 (by omega)
    have htru : (haveI := Classical.propDecidable (tru (w m)); if tru (w m) then (1 : Int) else 0) = if o ≤ 24 then 1 else 0 := by
      by_cases y : o ≤ 24
      · rw [if_pos y, if_pos (by unfold tru; omega)]
      · rw [if_neg y, if_neg (by unfold tru; omega)]
    refine ⟨kn1, ft1, e1, g5.cg (fun u v => hO u (by omega)), eo, ?_, ?_, ?_⟩
    · rw [kd_bin hlo (by omega) (by omega) (by omega), htru]
    · rw [fl_bin hlo (by omega) (by omega) (by omega), h4, q2, fst9_a, fst9_a, fst9_a]
    · exact (Cd_bin hlo (by omega) (by omega) (by omega) (by omega) (by omega)).mpr ⟨e', L, q9.cg (fun u _ v => hO u (by omega)), h5.cg (fun u _ v => hO u v), rfl, by rw [q2, hL]; omega, hP⟩
  · omega
  · omega
  · omega
  · omega
/-- '&' or '|' is grouped -/
theorem OPq.gjmp (h : OPq w E pl O P ec i0 s f0 c ((o, m, x) :: t) od mq kn ft L a) (ho : o = 30 ∨ o = 31) (hc : c ≤ rsq o) : ∃ (d : Nat) (od' mq' : List Int) (last left : Int) (kn' : List Int), od = (d : Int) :: od' ∧ mq = 0 :: mq' ∧ kn = last :: left :: kn' ∧ ((last = 0 ∨ last = 1) ∧ (left = 0 ∨ left = 1)) ∧ d < L ∧ ∀ O' P' : Nat → Int, (∀ t, t < L → O' t = O t) → (∀ t, t < L → t ≠ d → P' t = P t) → P' d = L → OPq w E pl O' P' ec i0 s f0 (cst o) t od' mq' (1 :: kn') (fst9 ft (kft (okq (o - 1) left last) (pl m))) L a := by
  obtain ⟨kn', ft', e', ⟨d, od', k, mq', kn1, ft1, e1, g1, g2, g3, g4, g5⟩, h2, h3, h4, h5⟩ := h
  have h2 : Eo w c x a := h2
  have h3 : kn = kdq w E 0 x a :: kn' := h3
  have h4 : ft = fst9 ft' (fl w E pl 0 x a) := h4
  have h5 : Cd w ec pl O P 0 0 0 x a e' L := h5
  have g4 : Gop w E pl O P ec o m x (xs9 i0 t) d k kn1 kn' ft1 ft' e1 e' := g4
  rcases g4 with ⟨q1, -⟩ | ⟨q1, -⟩ | ⟨q1, q2, q3, q4, q6, q7, q8, d9, r1, r2, r3, q9⟩ | ⟨q1, -⟩ | ⟨q1, -⟩ | ⟨q1, -⟩
  · omega
  · omega
  · subst q6 q3 q7 q8 r1 r2
    have p2 := h2.pr
    have hj := p2.1
    have l5 := h5.lt
    have l9 := q9.lt
    have p4 := q4.pr.1
    refine ⟨d9, od', mq', _, _, kn1, g1, g2, h3, ⟨kd_01, kd_01⟩, by omega, fun O' P' hO hP hd => ?_⟩
    obtain ⟨hlo, eo⟩ := lo_bin q4 (h2.le hc (rsq_le o)) q2 (by omega)
    have htru : (haveI := Classical.propDecidable (tru (w m)); if tru (w m) then (1 : Int) else 0) = 1 := by
      rw [if_pos (by unfold tru; omega)]
    refine ⟨kn1, ft1, e1, g5.cg (fun u v => ⟨hO u (by omega), hP u (by omega) (by omega)⟩), eo, ?_, ?_, ?_⟩
    · rw [kd_bin hlo (by omega) (by omega) (by omega), htru]
    · rw [fl_bin hlo (by omega) (by omega) (by omega), h4, q2, fst9_a, fst9_a, fst9_a]
    · exact (Cd_jmp hlo (by omega) (by omega) (by omega)).mpr ⟨d9, q9.cg (fun u _ v => ⟨hO u (by omega), hP u (by omega) (by omega)⟩), by rw [hO d9 (by omega), r3, q2]; omega, hd, h5.cg (fun u v1 v => ⟨hO u v, hP u v (by omega)⟩)⟩
  · omega
  · omega
  · omega
/-- a '?' with its ':' is grouped -/
theorem OPq.gels (h : OPq w E pl O P ec i0 s f0 c ((42, m, x) :: t) od mq kn ft L a) (hc : c ≤ 6) : ∃ (d : Nat) (od' : List Int) (k : Int) (mq' : List Int) (last : Int) (kn' : List Int), od = (d : Int) :: od' ∧ mq = k :: mq' ∧ kn = last :: kn' ∧ ((last = 0 ∨ last = 1) ∧ 0 ≤ k ∧ k ≤ 5) ∧ d < L ∧ ∀ O' P' : Nat → Int, (∀ t, t < L → O' t = O t) → (∀ t, t < L → t ≠ d → P' t = P t) → P' d = L → OPq w E pl O' P' ec i0 s f0 6 t od' mq' (last :: kn') (fst9 ft (kft (k = if last = 1 then 4 else 0) (pl m))) L a := by
  obtain ⟨kn', ft', e', ⟨d, od', k, mq', kn1, ft1, e1, g1, g2, g3, g4, g5⟩, h2, h3, h4, h5⟩ := h
  have h2 : Eo w c x a := h2
  have h3 : kn = kdq w E 0 x a :: kn' := h3
  have h4 : ft = fst9 ft' (fl w E pl 0 x a) := h4
  have h5 : Cd w ec pl O P 0 0 0 x a e' L := h5
  have g4 : Gop w E pl O P ec 42 m x (xs9 i0 t) d k kn1 kn' ft1 ft' e1 e' := g4
  rcases g4 with ⟨q1, -⟩ | ⟨q1, -⟩ | ⟨q1, -⟩ | ⟨q1, -⟩ | ⟨q1, q2, q3, q4, q5, q6, q7, q8, q9, d1, d2, r1, r2, r3, r4, r5, r6, r7⟩ | ⟨q1, -⟩
  · omega
  · omega
  · omega
  · omega
  · subst q8 q9 r1 r2
    have p2 := h2.pr
    have hj := p2.1
    have l5 := h5.lt
    have l6 := r6.lt
    have l7 := r7.lt
    have p3 := q3.pr
    have ex1 : x - 1 + 1 = x := by omega
    have k1 := kd_01 (w := w) (E := E) (c := 0) (i := xs9 i0 t) (j := m)
    have k2 := kd_01 (w := w) (E := E) (c := 0) (i := m + 1) (j := x - 1)
    have k3 := kd_01 (w := w) (E := E) (c := 0) (i := x) (j := a)
    refine ⟨d2, od', k, mq', _, kn', g1, g2, h3, ⟨k3, by rw [q7]; (repeat' split) <;> omega, by rw [q7]; (repeat' split) <;> omega⟩, by omega, fun O' P' hO hP hd => ?_⟩
    have hlo := lo_ask p3 q2 (j := a) (by omega)
    have hcl : clq w m a = x - 1 := clq_eo q5 q6 (by omega)
    have eo : Eo w 6 (xs9 i0 t) a := eo6 q2 q6 q3 q5 (by rw [ex1]; exact h2.le hc (by omega))
    refine ⟨kn', ft1, e1, g5.cg (fun u v => ⟨hO u (by omega), hP u (by omega) (by omega)⟩), eo, ?_, ?_, ?_⟩
    · rw [kd_ask hlo (Nat.le_of_lt p3.1) (by omega) q2 hcl, ex1]
    · rw [fl_ask hlo (Nat.le_of_lt p3.1) (by omega) q2 hcl, h4, ex1, fst9_a, fst9_a, fst9_a, fst9_a, fst9_a]
      refine congrArg (fun z => fst9 ft1 (fst9 _ (fst9 _ (fst9 _ z)))) (kft_iff ?_)
      rw [q7]
      rcases k1 with k1 | k1 <;> rcases k2 with k2 | k2 <;> rcases k3 with k3 | k3 <;> rw [k1, k2, k3] <;> decide
    · refine (Cd_ask hlo (Nat.le_of_lt p3.1) (by omega) q2 hcl).mpr ⟨d1, d2, r6.cg (fun u _ v => ⟨hO u (by omega), hP u (by omega) (by omega)⟩), by rw [hO d1 (by omega)]; exact r3, by rw [hP d1 (by omega) (by omega)]; exact r4, r7.cg (fun u _ v => ⟨hO u (by omega), hP u (by omega) (by omega)⟩), by rw [hO d2 (by omega)]; exact r5, hd, ?_⟩
      rw [ex1]
      exact h5.cg (fun u v1 v => ⟨hO u v, hP u v (by omega)⟩)
  · omega
end OR9
end
section
/-! The class's reader: more steps over its piles. -/
section OS9
variable {w E pl O P O' P' : Nat → Int} {ec : Nat → Int × Int} {i0 s : Nat} {f0 : Int × Int} {gs t : List gqq} {od mq kn : List Int} {ft : Int × Int} {L a m x c : Nat} {o : Int}
theorem lsq_le (o : Int) : lsq o ≤ 6 := by unfold lsq; (repeat' split) <;> omega
/-- behind an operand comes a sign -/
theorem OPq.sbin (h : OPq w E pl O P ec i0 s f0 c gs od mq kn ft L a) (ho : 19 ≤ o ∧ o ≤ 29) (hw : w a = o - 1) (hc : c ≤ lsq o) : GSq w E pl O P ec i0 s f0 ((o, a, a + 1) :: gs) (-1 :: od) (0 :: mq) kn ft L := by
  obtain ⟨kn', ft', e', h1, h2, h3, h4, h5⟩ := h
  exact ⟨-1, od, 0, mq, kn', ft', e', rfl, rfl, Nat.le_of_lt h5.lt, Or.inr (Or.inl ⟨ho, hw, rfl, h2.le hc (lsq_le o), rfl, rfl, h3, h4, h5⟩), h1⟩
theorem OPq.sjmp (h : OPq w E pl O P ec i0 s f0 c gs od mq kn ft L a) (ho : o = 30 ∨ o = 31) (hw : w a = o - 1) (hc : c ≤ lsq o) (hO : ∀ t, t < L → O' t = O t ∧ P' t = P t) (hL : O' L = o) : GSq w E pl O' P' ec i0 s f0 ((o, a, a + 1) :: gs) ((L : Int) :: od) (0 :: mq) kn ft (L + 1) := by
  obtain ⟨kn', ft', e', h1, h2, h3, h4, h5⟩ := h
  have l := h5.lt
  exact ⟨L, od, 0, mq, kn', ft', e', rfl, rfl, by omega, Or.inr (Or.inr (Or.inl ⟨ho, hw, rfl, h2.le hc (lsq_le o), rfl, h3, h4, L, rfl, rfl, hL, h5.cg (fun u _ v => hO u v)⟩)), h1.cg (fun u v => hO u (by omega))⟩
theorem OPq.sask (h : OPq w E pl O P ec i0 s f0 c gs od mq kn ft L a) (hw : w a = 32) (hc : c ≤ 5) (hO : ∀ t, t < L → O' t = O t ∧ P' t = P t) (hL : O' L = 33) : ∃ last kn', kn = last :: kn' ∧ (last = 0 ∨ last = 1) ∧ GSq w E pl O' P' ec i0 s f0 ((33, a, a + 1) :: gs) ((L : Int) :: od) ((if last = 1 then 0 else 1) :: mq) kn' ft (L + 1) := by
  obtain ⟨kn', ft', e', h1, h2, h3, h4, h5⟩ := h
  have l := h5.lt
  exact ⟨_, kn', h3, kd_01, L, od, _, mq, kn', ft', e', rfl, rfl, by omega, Or.inr (Or.inr (Or.inr (Or.inl ⟨rfl, hw, rfl, h2.le hc (by omega), rfl, rfl, h4, L, rfl, rfl, hL, h5.cg (fun u _ v => hO u v)⟩))), h1.cg (fun u v => hO u (by omega))⟩
/-- the ':' of a '?' -/
theorem OPq.colon (h : OPq w E pl O P ec i0 s f0 c ((33, m, x) :: t) od mq kn ft L a) (hw : w a = 33) (hc : c ≤ 6) : ∃ (d : Nat) (od' : List Int) (k : Int) (mq' : List Int) (last : Int) (kn' : List Int), od = (d : Int) :: od' ∧ mq = k :: mq' ∧ kn = last :: kn' ∧ ((last = 0 ∨ last = 1) ∧ (k = 0 ∨ k = 1)) ∧ d < L ∧ ∀ O' P' : Nat → Int, (∀ t, t < L → O' t = O t) → (∀ t, t < L → t ≠ d → P' t = P t) → O' L = 42 → P' d = (L : Int) + 1 → GSq w E pl O' P' ec i0 s f0 ((42, m, a + 1) :: t) ((L : Int) :: od') ((k + if last = 1 then 4 else 0) :: mq') kn' ft (L + 1) := by
  obtain ⟨kn', ft', e', ⟨d, od', k, mq', kn1, ft1, e1, g1, g2, g3, g4, g5⟩, h2, h3, h4, h5⟩ := h
  have h2 : Eo w c x a := h2
  have h3 : kn = kdq w E 0 x a :: kn' := h3
  have h4 : ft = fst9 ft' (fl w E pl 0 x a) := h4
  have h5 : Cd w ec pl O P 0 0 0 x a e' L := h5
  have g4 : Gop w E pl O P ec 33 m x (xs9 i0 t) d k kn1 kn' ft1 ft' e1 e' := g4
  rcases g4 with ⟨q1, -⟩ | ⟨q1, -⟩ | ⟨q1, -⟩ | ⟨q1, q2, q3, q4, q6, q7, q8, d9, r1, r2, r3, q9⟩ | ⟨q1, -⟩ | ⟨q1, -⟩
  · omega
  · omega
  · omega
  · subst q3 q7 q8 r1 r2
    have l5 := h5.lt
    have l9 := q9.lt
    have hj := h2.pr.1
    refine ⟨d9, od', k, mq', _, kn', g1, g2, h3, ⟨kd_01, by rw [q6]; split <;> omega⟩, by omega, fun O' P' hO hP hL hd => ?_⟩
    refine ⟨L, od', _, mq', kn', ft1, e1, rfl, rfl, by omega, Or.inr (Or.inr (Or.inr (Or.inr (Or.inl ⟨rfl, q2, q4, by show m + 1 < a + 1; omega, h2.le hc (by omega), hw, by rw [q6]; rfl, rfl, ?_, d9, L, rfl, rfl, by rw [hO d9 (by omega)]; exact r3, hd, hL, q9.cg (fun u _ v => ⟨hO u (by omega), hP u (by omega) (by omega)⟩), h5.cg (fun u v1 v => ⟨hO u v, hP u v (by omega)⟩)⟩)))), g5.cg (fun u v => ⟨hO u (by omega), hP u (by omega) (by omega)⟩)⟩
    exact h4
  · omega
  · omega
/-- a part of a list is over -/
theorem OPq.part (h : OPq w E pl O P ec i0 s f0 c ((o, m, x) :: t) od mq kn ft L a) (ho : o = 15 ∨ o = 16) (hc : c ≤ 6) : ∃ (od' : List Int) (k : Int) (mq' : List Int) (last : Int) (kn' : List Int), od = -1 :: od' ∧ mq = k :: mq' ∧ kn = last :: kn' ∧ ((last = 0 ∨ last = 1) ∧ (k = 0 ∨ k = 2 ∨ k = 3)) ∧ w m = o - 1 ∧ w (m + 1) = 36 ∧ m = xs9 i0 t ∧ m + 2 < a ∧ Eo w 7 (m + 2) a ∧ kdq w E 1 (m + 2) a = (if k = 3 ∨ last = 1 then 1 else 0) ∧ ∃ ft1 e1, ft = fst9 ft1 (fl w E pl 1 (m + 2) a) ∧ e1 < L ∧ (∀ O' P' : Nat → Int, (∀ t, t < L → O' t = O t ∧ P' t = P t) → GSq w E pl O' P' ec i0 s f0 t od' mq' kn' ft1 e1) ∧ ∀ O' P' : Nat → Int, (∀ t, t < L → O' t = O t ∧ P' t = P t) → (k = 0 → Cd w ec pl O' P' 1 o (pl m) (m + 2) a e1 L) ∧ (k ≠ 0 → O' L = o → P' L = pl m → Cd w ec pl O' P' 1 o (pl m) (m + 2) a e1 (L + 1)) := by
  obtain ⟨kn', ft', e', ⟨d, od', k, mq', kn1, ft1, e1, g1, g2, g3, g4, g5⟩, h2, h3, h4, h5⟩ := h
  have h2 : Eo w c x a := h2
  have h3 : kn = kdq w E 0 x a :: kn' := h3
  have h4 : ft = fst9 ft' (fl w E pl 0 x a) := h4
  have h5 : Cd w ec pl O P 0 0 0 x a e' L := h5
  have g4 : Gop w E pl O P ec o m x (xs9 i0 t) d k kn1 kn' ft1 ft' e1 e' := g4
  have h6 : Eo w 6 x a := h2.le hc (by omega)
  have l5 := h5.lt
  have hj := h6.pr.1
  have k3 := kd_01 (w := w) (E := E) (c := 0) (i := x) (j := a)
  rcases g4 with ⟨q1, -⟩ | ⟨q1, -⟩ | ⟨q1, -⟩ | ⟨q1, -⟩ | ⟨q1, -⟩ | ⟨q1, q2, q3, q4, q5, q6, q7⟩
  · omega
  · omega
  · omega
  · omega
  · omega
  · subst q5 q6
    rcases q7 with ⟨r1, r2, r3, r4⟩ | ⟨r1, r2, r3, r4, r5, r6⟩
    · subst r1 r2 r3 r4
      have l0 := lcq_eo h6 (by omega)
      refine ⟨od', 0, mq', _, kn', g1, g2, h3, ⟨k3, Or.inl rfl⟩, q2, q3, q4, hj, h6.one (by omega), ?_, ft', e', ?_, l5, fun O' P' hO => g5.cg (fun u v => hO u (by omega)), fun O' P' hO => ⟨fun _ => (Cd_l1 hj l0).mpr (h5.cg (fun u _ v => hO u v)), fun q => absurd rfl q⟩⟩
      · rw [kd_l1 hj l0]
        rcases k3 with k3 | k3 <;> rw [k3] <;> decide
      · rw [fl_l1 hj l0]; exact h4
    · have ex1 : x - 1 + 1 = x := by omega
      have h6' : Eo w 6 (x - 1 + 1) a := by rw [ex1]; exact h6
      have l0 := lcq_7 r2 r3 h6'
      have k1 := kd_01 (w := w) (E := E) (c := 1) (i := m + 2) (j := x - 1)
      have l6 := r6.lt
      have hm := r2.pr.1
      refine ⟨od', k, mq', _, kn', g1, g2, h3, ⟨k3, by omega⟩, q2, q3, q4, by omega, eo7 r3 r2 h6', ?_, ft1, e1, ?_, by omega, fun O' P' hO => g5.cg (fun u v => hO u (by omega)), fun O' P' hO => ⟨fun q => by omega, fun _ hL hP => (Cd_ln (m := x - 1) (by omega) l0 (by omega)).mpr ⟨e', L, r6.cg (fun u _ v => hO u (by omega)), by rw [ex1]; exact h5.cg (fun u _ v => hO u v), rfl, hL, hP⟩⟩⟩
      · rw [kd_ln (m := x - 1) (by omega) l0 (by omega), ex1, r4]
        rcases k1 with k1 | k1 <;> rcases k3 with k3 | k3 <;> rw [k1, k3] <;> decide
      · rw [fl_ln (m := x - 1) (by omega) l0 (by omega), ex1, h4, r5, fst9_a]
theorem OPq.comma (h : OPq w E pl O P ec i0 s f0 c ((o, m, x) :: t) od mq kn ft L a) (ho : o = 15 ∨ o = 16) (hc : c ≤ 6) (hw : w a = 35) : ∃ (od' : List Int) (k : Int) (mq' : List Int) (last : Int) (kn' : List Int), od = -1 :: od' ∧ mq = k :: mq' ∧ kn = last :: kn' ∧ ((last = 0 ∨ last = 1) ∧ (k = 0 ∨ k = 2 ∨ k = 3)) ∧ ∀ (O' P' : Nat → Int) (L' : Nat), (∀ t, t < L → O' t = O t ∧ P' t = P t) → (k = 0 → L' = L) → (k ≠ 0 → L' = L + 1 ∧ O' L = o ∧ P' L = pl m) → GSq w E pl O' P' ec i0 s f0 ((o, m, a + 1) :: t) (-1 :: od') ((if k = 3 ∨ last = 1 then 3 else 2) :: mq') kn' ft L' := by
  obtain ⟨od', k, mq', last, kn', h1, h2, h3, h4, h5, h6, h7, h8, h9, h10, ft1, e1, h11, h12, h13, h14⟩ := h.part ho hc
  refine ⟨od', k, mq', last, kn', h1, h2, h3, h4, fun O' P' L' hO hL0 hL1 => ?_⟩
  have cd : Cd w ec pl O' P' 1 o (pl m) (m + 2) a e1 L' := by
    by_cases z : k = 0
    · rw [hL0 z]; exact (h14 O' P' hO).1 z
    · obtain ⟨a1, a2, a3⟩ := hL1 z
      rw [a1]; exact (h14 O' P' hO).2 z a2 a3
  refine ⟨-1, od', _, mq', kn', ft1, e1, rfl, rfl, Nat.le_of_lt cd.lt, Or.inr (Or.inr (Or.inr (Or.inr (Or.inr ⟨ho, h5, h6, h7, rfl, rfl, Or.inr ⟨by show m + 2 < a + 1; omega, h9, hw, ?_, h11, cd⟩⟩)))), h13 O' P' hO⟩
  show (if k = 3 ∨ last = 1 then (3 : Int) else 2) = 2 + kdq w E 1 (m + 2) a
  rw [h10]
  by_cases z : k = 3 ∨ last = 1
  · rw [if_pos z, if_pos z]; rfl
  · rw [if_neg z, if_neg z]; rfl
theorem OPq.clos (h : OPq w E pl O P ec i0 s f0 c ((o, m, x) :: t) od mq kn ft L a) (ho : o = 15 ∨ o = 16) (hc : c ≤ 6) (hw : w a = 37) : ∃ (od' : List Int) (k : Int) (mq' : List Int) (last : Int) (kn' : List Int), od = -1 :: od' ∧ mq = k :: mq' ∧ kn = last :: kn' ∧ ((last = 0 ∨ last = 1) ∧ (k = 0 ∨ k = 2 ∨ k = 3)) ∧ ∀ (O' P' : Nat → Int) (L' : Nat), (∀ t, t < L → O' t = O t ∧ P' t = P t) → (k = 0 → L' = L) → (k ≠ 0 → L' = L + 1 ∧ O' L = o ∧ P' L = pl m) → OPq w E pl O' P' ec i0 s f0 0 t od' mq' (0 :: kn') (fst9 ft (kft (¬ (k = 3 ∨ last = 1)) (pl m))) L' (a + 1) := by
  obtain ⟨od', k, mq', last, kn', h1, h2, h3, h4, h5, h6, h7, h8, h9, h10, ft1, e1, h11, h12, h13, h14⟩ := h.part ho hc
  refine ⟨od', k, mq', last, kn', h1, h2, h3, h4, fun O' P' L' hO hL0 hL1 => ?_⟩
  have cd : Cd w ec pl O' P' 1 o (pl m) (m + 2) a e1 L' := by
    by_cases z : k = 0
    · rw [hL0 z]; exact (h14 O' P' hO).1 z
    · obtain ⟨a1, a2, a3⟩ := hL1 z
      rw [a1]; exact (h14 O' P' hO).2 z a2 a3
  have h15 : w m = 14 ∨ w m = 15 := by omega
  have eo : Eo w 0 m (a + 1) := eo0_lst h15 h6 hw h9
  have hlo := lo_none eo.pr
  refine ⟨kn', ft1, e1, h13 O' P' hO, by rw [← h7]; exact eo, by rw [← h7, kd_num hlo (by omega) (by omega)], ?_, ?_⟩
  · rw [← h7, fl_lst hlo (by omega) h15, show a + 1 - 1 = a by omega, h11, fst9_a]
    refine congrArg (fun z => fst9 ft1 (fst9 _ z)) (kft_iff ?_)
    rw [h10]
    by_cases z : k = 3 ∨ last = 1
    · rw [if_pos z]
      exact ⟨fun q => absurd z q, fun q => absurd q (by decide)⟩
    · rw [if_neg z]
      exact ⟨fun _ => rfl, fun _ => z⟩
  · rw [← h7]
    refine (Cd_lst hlo (by omega) h15).mpr ?_
    rw [show a + 1 - 1 = a by omega, h5, show o - 1 + 1 = o by omega]
    exact cd
theorem OPq.cpar (h : OPq w E pl O P ec i0 s f0 c ((37, m, x) :: t) od mq kn ft L a) (hc : c ≤ 6) (hw : w a = 37) : ∃ (od' mq' : List Int), od = -1 :: od' ∧ mq = 0 :: mq' ∧ OPq w E pl O P ec i0 s f0 0 t od' mq' kn ft L (a + 1) := by
  obtain ⟨kn', ft', e', ⟨d, od', k, mq', kn1, ft1, e1, g1, g2, g3, g4, g5⟩, h2, h3, h4, h5⟩ := h
  have h2 : Eo w c x a := h2
  have h3 : kn = kdq w E 0 x a :: kn' := h3
  have h4 : ft = fst9 ft' (fl w E pl 0 x a) := h4
  have h5 : Cd w ec pl O P 0 0 0 x a e' L := h5
  have g4 : Gop w E pl O P ec 37 m x (xs9 i0 t) d k kn1 kn' ft1 ft' e1 e' := g4
  rcases g4 with ⟨q1, q2, q3, q4, q5, q6, q7, q8⟩ | ⟨q1, -⟩ | ⟨q1, -⟩ | ⟨q1, -⟩ | ⟨q1, -⟩ | ⟨q1, -⟩
  · subst q4 q5 q6 q7 q8
    have hx : x = m + 1 := by omega
    subst hx
    have hw36 : w m = 36 := by omega
    have eo : Eo w 0 m (a + 1) := eo0_par hw36 hw (h2.le hc (by omega))
    have hlo := lo_none eo.pr
    refine ⟨od', mq', g1, g2, kn', ft', e', g5, by rw [← q2]; exact eo, ?_, ?_, ?_⟩
    · rw [← q2, kd_par hlo (by have := h2.pr.1; omega) hw36]; exact h3
    · rw [← q2, fl_par hlo (by have := h2.pr.1; omega) hw36]; exact h4
    · rw [← q2]
      exact (Cd_par hlo (by have := h2.pr.1; omega) hw36).mpr h5
  · omega
  · omega
  · omega
  · omega
  · omega
/-- the rule is over: one operand is left -/
theorem OPq.done (h : OPq w E pl O P ec i0 s f0 c [] od mq kn ft L a) : Eo w c i0 a ∧ kn = [kdq w E 0 i0 a] ∧ ft = fst9 f0 (fl w E pl 0 i0 a) ∧ Cd w ec pl O P 0 0 0 i0 a s L := by
  obtain ⟨kn', ft', e', ⟨-, -, g3, g4, g5⟩, h2, h3, h4, h5⟩ := h
  subst g3 g4 g5
  exact ⟨h2, h3, h4, h5⟩
end OS9
end
section
/-! THE CLASS: its words. -/
section WO
variable {G : mG} {d w T A B D N C k : Nat} {M M' M1 : mM}
/-- the words' places: T the tape, N characters; A sorts, B starts, D amounts, all of C places -/
def WA (M : mM) (w T A B D N C : Nat) : Prop := mK M w = 2 ∧ (mR M w 0 = T ∧ mR M w 3 = A ∧ mR M w 4 = B ∧ mR M w 5 = D) ∧ (mK M T = 32 ∧ N ≤ mN M T) ∧ (mK M A = 30 ∧ mK M B = 30 ∧ mK M D = 30) ∧ (mN M A = C ∧ mN M B = C ∧ mN M D = C) ∧ mI M w 1 = N ∧ N ≤ 16384 ∧ N + 2 ≤ C ∧ (A ≠ B ∧ A ≠ D ∧ B ≠ D)
def woA (w A B D : Nat) : Nat → Prop := fun x => x = w ∨ x = A ∨ x = B ∨ x = D
/-- a word that may stand -/
def wdk (N : Nat) (s st am : Int) : Prop := (1 ≤ s ∧ s ≤ 39) ∧ (0 ≤ st ∧ st < N) ∧ (s = 2 → 1 ≤ am ∧ am ≤ 40 ∧ st + am ≤ N) ∧ (s = 3 → 0 ≤ am ∧ am ≤ 999999999)
/-- k words have been taken -/
def WI (M : mM) (w A B D N k : Nat) : Prop := mI M w 2 = k ∧ ∀ i, i < k → wdk N (mI M A i) (mI M B i) (mI M D i)
theorem WA.fi (h : WA M w T A B D N C) (f : FI (woA w A B D) M M') (h1 : mI M' w 1 = mI M w 1) : WA M' w T A B D N C := by
  obtain ⟨f1, f2, f3, -⟩ := f
  unfold WA at h ⊢
  rw [f1, f2, f3, h1]
  exact h
theorem WA.ne (h : WA M w T A B D N C) : w ≠ A ∧ w ≠ B ∧ w ≠ D ∧ T ≠ w ∧ T ≠ A ∧ T ≠ B ∧ T ≠ D := by
  obtain ⟨h1, -, ⟨h2, -⟩, ⟨h3, h4, h5⟩, -⟩ := h
  refine ⟨fun e => ?_, fun e => ?_, fun e => ?_, fun e => ?_, fun e => ?_, fun e => ?_, fun e => ?_⟩ <;> subst e <;> omega
theorem s_Wo_isDigit {x : Int} (hO : mOk M) (hx : i32 x) : Ci G y_Wo_isDigit d [vi x] M (fun r M' => M' = M ∧ (r = 0 ∨ r = 1) ∧ (r ≠ 0 ↔ 48 ≤ x ∧ x ≤ 57)) :=
  k_Wo_isDigit hO hx (fun v e => by
    by_cases y : x < 48 ∨ 57 < x
    · rw [if_pos y] at e
      exact ⟨rfl, by omega, by omega⟩
    · rw [if_neg y] at e
      exact ⟨rfl, by omega, by omega⟩)
theorem s_Wo_add {s st am : Int} (hs : i32 s) (hst : i32 st) (ham : i32 am) (hO : mOk M) (h : WA M w T A B D N C) (hk : mI M w 2 = k) (hC : k < C) (hC2 : C ≤ 16777216) : Cv G y_Wo_add d [vr w, vi s, vi st, vi am] M (fun M' => mOk M' ∧ FI (woA w A B D) M M' ∧ WA M' w T A B D N C ∧ mI M' w 2 = k + 1 ∧ (∀ i, mI M' A i = if i = k then s else mI M A i) ∧ (∀ i, mI M' B i = if i = k then st else mI M B i) ∧ (∀ i, mI M' D i = if i = k then am else mI M D i)) := by
  obtain ⟨n1, n2, n3, -⟩ := h.ne
  obtain ⟨h1, ⟨p0, p3, p4, p5⟩, h3, ⟨k3, k4, k5⟩, ⟨c3, c4, c5⟩, h6, h7, h8, ⟨d1, d2, d3⟩⟩ := id h
  refine k_Wo_add hO hs hst ham ?_
  rw [p3, c3]
  refine ⟨h1, k3, by omega, fun M4 e4 => ?_⟩
  have a4 : mI M4 w = mI M w := by rw [e4]; funext j; rw [mI_UI, if_neg (fun z => n1 z.1)]
  have R4 : mR M4 = mR M := by rw [e4]; rfl
  have N4 : mN M4 = mN M := by rw [e4]; rfl
  have K4 : mK M4 = mK M := by rw [e4]; rfl
  rw [R4, K4, N4, p4, a4, hk, Int.toNat_natCast, c4]
  refine ⟨k4, by omega, fun M8 e8 => ?_⟩
  have a8 : mI M8 w = mI M w := by rw [e8]; funext j; rw [mI_UI, if_neg (fun z => n2 z.1), a4]
  have R8 : mR M8 = mR M := by rw [e8]; exact R4
  have N8 : mN M8 = mN M := by rw [e8]; exact N4
  have K8 : mK M8 = mK M := by rw [e8]; exact K4
  rw [R8, K8, N8, p5, a8, hk, Int.toNat_natCast, c5]
  refine ⟨k5, by omega, fun M12 e12 => ?_⟩
  have a12 : mI M12 w = mI M w := by rw [e12]; funext j; rw [mI_UI, if_neg (fun z => n3 z.1), a8]
  rw [a12, hk]
  refine ⟨⟨by omega, by omega⟩, fun M15 e15 => ?_⟩
  rw [hk, Int.toNat_natCast] at e4
  have fi : FI (woA w A B D) M M15 := by
    have g4 : FI (woA w A B D) M M4 := by rw [e4]; exact FI.ui (Or.inr (Or.inl rfl))
    have g8 : FI (woA w A B D) M4 M8 := by rw [e8]; exact FI.ui (Or.inr (Or.inr (Or.inl rfl)))
    have g12 : FI (woA w A B D) M8 M12 := by rw [e12]; exact FI.ui (Or.inr (Or.inr (Or.inr rfl)))
    have g15 : FI (woA w A B D) M12 M15 := by rw [e15]; exact FI.ui (Or.inl rfl)
    exact ((g4.trans g8).trans g12).trans g15
  have oO : mOk M15 := by
    have o4 : mOk M4 := by rw [e4]; exact mOk_UI hO hs
    have o8 : mOk M8 := by rw [e8]; exact mOk_UI o4 hst
    have o12 : mOk M12 := by rw [e12]; exact mOk_UI o8 ham
    rw [e15]; exact mOk_UI o12 (⟨by omega, by omega⟩)
  refine ⟨oO, fi, h.fi fi (by rw [e15, mI_UI, if_neg (fun z => absurd z.2 (by decide)), a12]), by rw [e15, mI_UI, if_pos ⟨rfl, rfl⟩], fun i => ?_, fun i => ?_, fun i => ?_⟩
  · rw [e15, mI_UI, if_neg (fun z => n1 z.1.symm), e12, mI_UI, if_neg (fun z => d2 z.1), e8, mI_UI, if_neg (fun z => d1 z.1), e4, mI_UI]
    by_cases y : i = k
    · rw [if_pos y, if_pos ⟨rfl, y⟩]
    · rw [if_neg y, if_neg (fun z => y z.2)]
  · rw [e15, mI_UI, if_neg (fun z => n2 z.1.symm), e12, mI_UI, if_neg (fun z => d3 z.1), e8, mI_UI]
    by_cases y : i = k
    · rw [if_pos y, if_pos ⟨rfl, y⟩]
    · rw [if_neg y, if_neg (fun z => y z.2), e4, mI_UI, if_neg (fun z => d1 z.1.symm)]
  · rw [e15, mI_UI, if_neg (fun z => n3 z.1.symm), e12, mI_UI]
    by_cases y : i = k
    · rw [if_pos y, if_pos ⟨rfl, y⟩]
    · rw [if_neg y, if_neg (fun z => y z.2), e8, mI_UI, if_neg (fun z => d3 z.1.symm), e4, mI_UI, if_neg (fun z => d2 z.1.symm)]
/-- a word is added -/
theorem WI.add {s st am : Int} (h : WI M w A B D N k) (hw : wdk N s st am) (h2 : mI M' w 2 = k + 1) (hA : ∀ i, mI M' A i = if i = k then s else mI M A i) (hB : ∀ i, mI M' B i = if i = k then st else mI M B i) (hD : ∀ i, mI M' D i = if i = k then am else mI M D i) : WI M' w A B D N (k + 1) := by
  refine ⟨by rw [h2]; rfl, fun i hi => ?_⟩
  rw [hA, hB, hD]
  by_cases y : i = k
  · rw [if_pos y, if_pos y, if_pos y]
    exact hw
  · rw [if_neg y, if_neg y, if_neg y]
    exact h.2 i (by omega)
end WO
end
section
/-! The class's words: a number, a name, a word. -/
section WO2
variable {G : mG} {d w T A B D N C k : Nat} {M M' M1 : mM}
/-- what nameSort answers -/
def NSs (G : mG) : Prop := ∀ (d w T A B D N C p n : Nat) (M : mM), mOk M → WA M w T A B D N C → p + n ≤ N → 1 ≤ n → n ≤ 40 → Ci G y_Wo_nameSort (d + 5) [vr w, vi p, vi n] M (fun r M' => M' = M ∧ 2 ≤ r ∧ r ≤ 16 ∧ r ≠ 3)
/-- a word has been taken from place p on -/
def twQ (M : mM) (w T A B D N C k p : Nat) (r : Int) (M' : mM) : Prop := mOk M' ∧ FI (woA w A B D) M M' ∧ WA M' w T A B D N C ∧ WI M' w A B D N (k + 1) ∧ ∃ j : Nat, r = j ∧ p < j ∧ j ≤ N
end WO2
end
section
/-! The class's words: reserve, split, same. A frame with growth for the class. -/
section WO3
variable {G : mG} {d w T A B D N C k n : Nat} {M M' M1 M2 : mM} {S R S' R' : Nat → Prop}
/-- old cells keep kind, length and longs; references but in R, ints but in S -/
def FA (S R : Nat → Prop) (M M' : mM) : Prop := (mZ M ≤ mZ M' ∧ mS M ≤ mS M') ∧ ∀ x, x < mZ M → mK M' x = mK M x ∧ mN M' x = mN M x ∧ mL M' x = mL M x ∧ (¬ R x → mR M' x = mR M x) ∧ (¬ S x → mI M' x = mI M x)
theorem FA.refl : FA S R M M := ⟨⟨Nat.le_refl _, Nat.le_refl _⟩, fun _ _ => ⟨rfl, rfl, rfl, fun _ => rfl, fun _ => rfl⟩⟩
theorem FA.trans (h : FA S R M M1) (k : FA S R M1 M2) : FA S R M M2 := by
  obtain ⟨⟨h1, h2⟩, h3⟩ := h
  obtain ⟨⟨k1, k2⟩, k3⟩ := k
  refine ⟨⟨by omega, by omega⟩, fun x hx => ?_⟩
  obtain ⟨a1, a2, a3, a4, a5⟩ := h3 x hx
  obtain ⟨b1, b2, b3, b4, b5⟩ := k3 x (by omega)
  exact ⟨b1.trans a1, b2.trans a2, b3.trans a3, fun z => (b4 z).trans (a4 z), fun z => (b5 z).trans (a5 z)⟩
theorem FA.mono (h : FA S R M M1) (hS : ∀ x, x < mZ M → S x → S' x) (hR : ∀ x, x < mZ M → R x → R' x) : FA S' R' M M1 :=
  ⟨h.1, fun x hx => ⟨(h.2 x hx).1, (h.2 x hx).2.1, (h.2 x hx).2.2.1, fun z => (h.2 x hx).2.2.2.1 (fun y => z (hR x hx y)), fun z => (h.2 x hx).2.2.2.2 (fun y => z (hS x hx y))⟩⟩
/-- a frame of old cells, whatever happens to new ones -/
theorem FA.trans2 (h : FA S R M M1) (k : FA S' R' M1 M2) (hS : ∀ x, x < mZ M → S' x → S x) (hR : ∀ x, x < mZ M → R' x → R x) : FA S R M M2 := by
  obtain ⟨⟨h1, h2⟩, h3⟩ := h
  obtain ⟨⟨k1, k2⟩, k3⟩ := k
  refine ⟨⟨by omega, by omega⟩, fun x hx => ?_⟩
  obtain ⟨a1, a2, a3, a4, a5⟩ := h3 x hx
  obtain ⟨b1, b2, b3, b4, b5⟩ := k3 x (by omega)
  exact ⟨b1.trans a1, b2.trans a2, b3.trans a3, fun z => (b4 (fun y => z (hR x hx y))).trans (a4 z), fun z => (b5 (fun y => z (hS x hx y))).trans (a5 z)⟩
theorem FI.fa (f : FI S M M1) : FA S R M M1 := by
  obtain ⟨f1, f2, f3, f4, f5, f6, f7⟩ := f
  exact ⟨⟨by rw [f5]; exact Nat.le_refl _, by rw [f6]; exact Nat.le_refl _⟩, fun x _ => ⟨by rw [f1], by rw [f2], by rw [f4], fun _ => by rw [f3], fun z => f7 x z⟩⟩
theorem FA.new {k n c : Nat} (e : M1 = mNew M k n c) : FA S R M M1 := by
  subst e
  refine ⟨⟨by rw [mZ_New]; omega, by rw [mS_New]; omega⟩, fun x hx => ?_⟩
  have hne : x ≠ mZ M := by omega
  refine ⟨by rw [mK_New, if_neg hne], by rw [mN_New, if_neg hne], ?_, fun _ => ?_, fun _ => ?_⟩
  · funext j; rw [mL_New, if_neg hne]
  · funext j; rw [mR_New, if_neg hne]
  · funext j; rw [mI_New, if_neg hne]
theorem FA.ur {a j x : Nat} (ha : R a) (e : M1 = mUR M a j x) : FA S R M M1 := by
  subst e
  refine ⟨⟨Nat.le_refl _, Nat.le_refl _⟩, fun b _ => ⟨rfl, rfl, rfl, fun z => ?_, fun _ => rfl⟩⟩
  funext i
  rw [mR_UR, if_neg (fun q => z (by rw [q.1]; exact ha))]
/-- the words' arrays before a split -/
def WB (M : mM) (w A B D C : Nat) : Prop := mK M w = 2 ∧ (mR M w 3 = A ∧ mR M w 4 = B ∧ mR M w 5 = D) ∧ (mK M A = 30 ∧ mK M B = 30 ∧ mK M D = 30) ∧ (mN M A = C ∧ mN M B = C ∧ mN M D = C) ∧ (A ≠ B ∧ A ≠ D ∧ B ≠ D) ∧ (w < mZ M ∧ A < mZ M ∧ B < mZ M ∧ D < mZ M) ∧ 128 ≤ C ∧ C ≤ 40000
/-- how the arrays grew -/
def grw (M : mM) (A B D C : Nat) (M' : mM) (A' B' D' C' : Nat) : Prop := (A' = A ∧ B' = B ∧ D' = D ∧ C' = C ∧ mZ M' = mZ M ∧ mS M' = mS M) ∨ (A' = mZ M ∧ B' = mZ M + 1 ∧ D' = mZ M + 2 ∧ 2 * C ≤ C' ∧ mZ M' = mZ M + 3 ∧ mS M' = mS M + 3 * C')
theorem s_Wo_reserve {q : Nat} (hO : mOk M) (h : WB M w A B D C) (hq : q ≤ 16400) : Cv G y_Wo_reserve d [vr w, vi q] M (fun M' => ∃ A' B' D' C', mOk M' ∧ WB M' w A' B' D' C' ∧ q ≤ C' ∧ C' ≤ C + 2 * q ∧ FA (fun _ => False) (fun x => x = w) M M' ∧ (∀ i, i ≠ 3 → i ≠ 4 → i ≠ 5 → mR M' w i = mR M w i) ∧ grw M A B D C M' A' B' D' C') := by
  obtain ⟨h1, ⟨p3, p4, p5⟩, ⟨k3, k4, k5⟩, ⟨c3, c4, c5⟩, ⟨d1, d2, d3⟩, ⟨z0, z1, z2, z3⟩, b1, b2⟩ := id h
  refine k_Wo_reserve hO ⟨by omega, by omega⟩ ?_
  rw [p3, c3]
  refine ⟨h1, k3, ?_⟩
  have pw : ∀ i, i ≤ 8 → 128 * 2 ^ i ≤ 128 * 2 ^ 8 := by decide
  suffices H : ∀ (t i l : Nat), 8 ≤ i + t → i ≤ 8 → 128 * 2 ^ i ≤ l → ((i = 0 ∧ l = C) ∨ (2 * C ≤ l ∧ l ≤ 2 * q)) → h_Wo_reserve_8 G d w q l i M (fun M' => ∃ A' B' D' C', mOk M' ∧ WB M' w A' B' D' C' ∧ q ≤ C' ∧ C' ≤ C + 2 * q ∧ FA (fun _ => False) (fun x => x = w) M M' ∧ (∀ i, i ≠ 3 → i ≠ 4 → i ≠ 5 → mR M' w i = mR M w i) ∧ grw M A B D C M' A' B' D' C') from H 8 0 C (by omega) (by omega) (by simpa using b1) (Or.inl ⟨rfl, rfl⟩)
  -- the end
  have fin : ∀ {l : Nat}, q ≤ l → (l = C ∨ (2 * C ≤ l ∧ l ≤ 2 * q)) → mK M w = 2 ∧ mK M (mR M w 3) = 30 ∧ i32 (mN M (mR M w 3) : Int) ∧ (((l : Int) ≤ (mN M (mR M w 3) : Int)) → (∃ A' B' D' C', mOk M ∧ WB M w A' B' D' C' ∧ q ≤ C' ∧ C' ≤ C + 2 * q ∧ FA (fun _ => False) (fun x => x = w) M M ∧ (∀ i, i ≠ 3 → i ≠ 4 → i ≠ 5 → mR M w i = mR M w i) ∧ grw M A B D C M A' B' D' C')) ∧ (¬ ((l : Int) ≤ (mN M (mR M w 3) : Int)) → (((0 : Int) ≤ l ∧ (l : Int) ≤ 16777216) ∧ ∀ M16, M16 = mNew M 30 (Int.toNat l) (Int.toNat l) → mK M16 w = 2 ∧ ∀ M19, M19 = mUR M16 w 3 (mZ M) → ((0 : Int) ≤ l ∧ (l : Int) ≤ 16777216) ∧ ∀ M22, M22 = mNew M19 30 (Int.toNat l) (Int.toNat l) → mK M22 w = 2 ∧ ∀ M25, M25 = mUR M22 w 4 (mZ M19) → ((0 : Int) ≤ l ∧ (l : Int) ≤ 16777216) ∧ ∀ M28, M28 = mNew M25 30 (Int.toNat l) (Int.toNat l) → mK M28 w = 2 ∧ ∀ M31, M31 = mUR M28 w 5 (mZ M25) → (∃ A' B' D' C', mOk M31 ∧ WB M31 w A' B' D' C' ∧ q ≤ C' ∧ C' ≤ C + 2 * q ∧ FA (fun _ => False) (fun x => x = w) M M31 ∧ (∀ i, i ≠ 3 → i ≠ 4 → i ≠ 5 → mR M31 w i = mR M w i) ∧ grw M A B D C M31 A' B' D' C'))) := fun {l} hl hd => by
    rw [p3, c3, Int.toNat_natCast]
    refine ⟨h1, k3, ⟨by omega, by omega⟩, fun y => ⟨A, B, D, C, hO, h, by omega, by omega, FA.refl, fun _ _ _ _ => rfl, Or.inl ⟨rfl, rfl, rfl, rfl, rfl, rfl⟩⟩, fun y => ⟨by omega, fun M16 e16 => ?_⟩⟩
    have ew : w ≠ mZ M := by omega
    have g16 : FA (fun _ => False) (fun x => x = w) M M16 := FA.new e16
    have Z16 : mZ M16 = mZ M + 1 := by rw [e16]; rfl
    refine ⟨by rw [(g16.2 w z0).1]; exact h1, fun M19 e19 => ⟨by omega, fun M22 e22 => ?_⟩⟩
    have g19 := g16.trans (FA.ur (S := fun _ => False) (R := fun x => x = w) rfl e19)
    have Z19 : mZ M19 = mZ M + 1 := by rw [e19]; exact Z16
    have g22 := g19.trans (FA.new (S := fun _ => False) (R := fun x => x = w) e22)
    have Z22 : mZ M22 = mZ M + 2 := by rw [e22, mZ_New, Z19]
    refine ⟨by rw [(g22.2 w z0).1]; exact h1, fun M25 e25 => ⟨by omega, fun M28 e28 => ?_⟩⟩
    have g25 := g22.trans (FA.ur (S := fun _ => False) (R := fun x => x = w) rfl e25)
    have Z25 : mZ M25 = mZ M + 2 := by rw [e25]; exact Z22
    have g28 := g25.trans (FA.new (S := fun _ => False) (R := fun x => x = w) e28)
    have Z28 : mZ M28 = mZ M + 3 := by rw [e28, mZ_New, Z25]
    refine ⟨by rw [(g28.2 w z0).1]; exact h1, fun M31 e31 => ?_⟩
    have g31 := g28.trans (FA.ur (S := fun _ => False) (R := fun x => x = w) rfl e31)
    have Z31 : mZ M31 = mZ M + 3 := by rw [e31]; exact Z28
    have S31 : mS M31 = mS M + 3 * l := by
      rw [e31, mS_UR, e28, mS_New, e25, mS_UR, e22, mS_New, e19, mS_UR, e16, mS_New]
      omega
    have K31 : ∀ x, mK M31 x = if x = mZ M + 2 then 30 else if x = mZ M + 1 then 30 else if x = mZ M then 30 else mK M x := fun x => by
      rw [e31, mK_UR, e28, mK_New, Z25, e25, mK_UR, e22, mK_New, Z19, e19, mK_UR, e16, mK_New]
    have N31 : ∀ x, mN M31 x = if x = mZ M + 2 then l else if x = mZ M + 1 then l else if x = mZ M then l else mN M x := fun x => by
      rw [e31, mN_UR, e28, mN_New, Z25, e25, mN_UR, e22, mN_New, Z19, e19, mN_UR, e16, mN_New]
    have R31 : ∀ i, mR M31 w i = if i = 5 then mZ M + 2 else if i = 4 then mZ M + 1 else if i = 3 then mZ M else mR M w i := fun i => by
      rw [e31, mR_UR, Z25]
      by_cases y5 : i = 5
      · rw [if_pos ⟨rfl, y5⟩, if_pos y5]
      · rw [if_neg (fun z => y5 z.2), if_neg y5, e28, mR_New, if_neg (by omega), e25, mR_UR, Z19]
        by_cases y4 : i = 4
        · rw [if_pos ⟨rfl, y4⟩, if_pos y4]
        · rw [if_neg (fun z => y4 z.2), if_neg y4, e22, mR_New, if_neg (by omega), e19, mR_UR]
          by_cases y3 : i = 3
          · rw [if_pos ⟨rfl, y3⟩, if_pos y3]
          · rw [if_neg (fun z => y3 z.2), if_neg y3, e16, mR_New, if_neg ew]
    have o16 : mOk M16 := by rw [e16]; exact mOk_New hO
    have o19 : mOk M19 := by rw [e19]; exact mOk_UR o16
    have o22 : mOk M22 := by rw [e22]; exact mOk_New o19
    have o25 : mOk M25 := by rw [e25]; exact mOk_UR o22
    have o28 : mOk M28 := by rw [e28]; exact mOk_New o25
    have o31 : mOk M31 := by rw [e31]; exact mOk_UR o28
    have l2 : 2 * C ≤ l ∧ l ≤ 2 * q := by omega
    refine ⟨mZ M, mZ M + 1, mZ M + 2, l, o31, ⟨by rw [K31, if_neg (by omega), if_neg (by omega), if_neg ew]; exact h1, ⟨by rw [R31, if_neg (by decide), if_neg (by decide), if_pos rfl], by rw [R31, if_neg (by decide), if_pos rfl], by rw [R31, if_pos rfl]⟩, ⟨by rw [K31, if_neg (by omega), if_neg (by omega), if_pos rfl], by rw [K31, if_neg (by omega), if_pos rfl], by rw [K31, if_pos rfl]⟩, ⟨by rw [N31, if_neg (by omega), if_neg (by omega), if_pos rfl], by rw [N31, if_neg (by omega), if_pos rfl], by rw [N31, if_pos rfl]⟩, ⟨by omega, by omega, by omega⟩, ⟨by omega, by omega, by omega, by omega⟩, by omega, by omega⟩, hl, by omega, g31, fun i i3 i4 i5 => by rw [R31, if_neg i5, if_neg i4, if_neg i3], Or.inr ⟨rfl, rfl, rfl, l2.1, Z31, S31⟩⟩
  intro t
  induction t with
  | zero =>
    intro i l hi hi8 hl hd
    have i8 : i = 8 := by omega
    subst i8
    refine k_Wo_reserve_8 hO ⟨by omega, by omega⟩ ⟨by omega, by omega⟩ ⟨by omega, by omega⟩ ⟨fun y => fin (by omega) (by omega), fun y => absurd (Or.inr (by omega)) y⟩
  | succ t ih =>
    intro i l hi hi8 hl hd
    refine k_Wo_reserve_8 hO ⟨by omega, by omega⟩ ⟨by omega, by omega⟩ ⟨by omega, by omega⟩ ⟨fun y => fin (by omega) (by omega), fun y => ?_⟩
    have y1 : l < q := by omega
    by_cases e8 : i = 8
    · subst e8
      omega
    · have e2 : 128 * 2 ^ (i + 1) = 2 * (128 * 2 ^ i) := by rw [Nat.pow_succ]; omega
      have := ih (i + 1) (l * 2) (by omega) (by omega) (by omega) (Or.inr (by omega))
      rw [show ((l * 2 : Nat) : Int) = (l : Int) * 2 by omega, show ((i + 1 : Nat) : Int) = (i : Int) + 1 by omega] at this
      exact this
end WO3
end
section
/-! The class's words: split, same. -/
section WO4
variable {G : mG} {d w T A B D N C k n : Nat} {M M' M1 M2 : mM}
/-- the words of a tape: n of them, and the end -/
def Wf (M : mM) (w T A B D N C n : Nat) : Prop := WA M w T A B D N C ∧ mI M w 2 = n + 1 ∧ n ≤ N ∧ (∀ i, i < n → wdk N (mI M A i) (mI M B i) (mI M D i)) ∧ mI M A n = 0 ∧ mI M B n = N
theorem WB.wa (h : WB M w A B D C) (hT : mR M w 0 = T) (kT : mK M T = 32) (nT : N ≤ mN M T) (h1 : mI M w 1 = N) (h2 : N ≤ 16384) (h3 : N + 2 ≤ C) : WA M w T A B D N C := by
  obtain ⟨a1, a2, a3, a4, a5, -⟩ := h
  exact ⟨a1, ⟨hT, a2⟩, ⟨kT, nT⟩, a3, a4, h1, h2, h3, a5⟩
theorem WB.fi {S : Nat → Prop} (h : WB M w A B D C) (f : FI S M M') : WB M' w A B D C := by
  obtain ⟨f1, f2, f3, f4, f5, -⟩ := f
  unfold WB at h ⊢
  rw [f1, f2, f3, f5]
  exact h
end WO4
end
section
/-! The class's programs: places, add, clear. -/
section PRG
variable {G : mG} {d z p O P C n : Nat} {M M' M1 M2 : mM} {S : Nat → Prop}
/-- a program's tables -/
def PL (M : mM) (p : Nat) : Prop := (mR M p 4 = p + 3 ∧ mR M p 5 = p + 4 ∧ mR M p 6 = p + 5 ∧ mR M p 8 = p + 6 ∧ mR M p 9 = p + 7 ∧ mR M p 10 = p + 8 ∧ mR M p 13 = p + 9 ∧ mR M p 14 = p + 10 ∧ mR M p 15 = p + 11 ∧ mR M p 16 = p + 12 ∧ mR M p 17 = p + 13 ∧ mR M p 18 = p + 14 ∧ mR M p 19 = p + 15) ∧ (mK M (p + 3) = 30 ∧ mK M (p + 4) = 30 ∧ mK M (p + 5) = 30 ∧ mK M (p + 6) = 30 ∧ mK M (p + 7) = 30 ∧ mK M (p + 8) = 30 ∧ mK M (p + 9) = 30 ∧ mK M (p + 10) = 30 ∧ mK M (p + 11) = 30 ∧ mK M (p + 12) = 30 ∧ mK M (p + 13) = 30 ∧ mK M (p + 14) = 30 ∧ mK M (p + 15) = 30) ∧ (mN M (p + 3) = 12 ∧ mN M (p + 4) = 12 ∧ mN M (p + 5) = 12 ∧ mN M (p + 6) = 60 ∧ mN M (p + 7) = 60 ∧ mN M (p + 8) = 60 ∧ mN M (p + 9) = 60 ∧ mN M (p + 10) = 60 ∧ mN M (p + 11) = 60 ∧ mN M (p + 12) = 61 ∧ mN M (p + 13) = 480 ∧ mN M (p + 14) = 480 ∧ mN M (p + 15) = 480)
/-- a program: O orders, P operands, of C places; z the end of the class's first cells -/
def PK (M : mM) (z p O P C : Nat) : Prop := mK M p = 6 ∧ (mR M p 0 = O ∧ mR M p 1 = P) ∧ (mK M O = 30 ∧ mK M P = 30 ∧ mN M O = C ∧ mN M P = C) ∧ ((O = p + 1 ∨ z ≤ O) ∧ (P = p + 2 ∨ z ≤ P) ∧ O ≠ P ∧ p + 16 ≤ z) ∧ (z ≤ mZ M ∧ O < mZ M ∧ P < mZ M) ∧ (128 ≤ C ∧ C ≤ 40000) ∧ PL M p
theorem PK.fi (h : PK M z p O P C) (f : FI S M M') : PK M' z p O P C := by
  obtain ⟨f1, f2, f3, f4, f5, -⟩ := f
  unfold PK PL at h ⊢
  rw [f1, f2, f3, f5]
  exact h
/-- what adding an order changes -/
def prS (p O P : Nat) : Nat → Prop := fun x => x = p ∨ x = O ∨ x = P
theorem s_Pr_add {o x : Int} (ho : i32 o) (hx : i32 x) (hO : mOk M) (h : PK M z p O P C) (hn : mI M p 2 = n) (hC : n < C) : Ci G y_Pr_add d [vr p, vi o, vi x] M (fun r M' => r = n ∧ mOk M' ∧ FI (prS p O P) M M' ∧ (∀ j, mI M' p j = if j = 2 then (n : Int) + 1 else mI M p j) ∧ (∀ j, mI M' O j = if j = n then o else mI M O j) ∧ (∀ j, mI M' P j = if j = n then x else mI M P j)) := by
  obtain ⟨h1, ⟨r0, r1⟩, ⟨k0, k1, n0, n1⟩, ⟨a0, a1, a2, a3⟩, -, hc, -⟩ := id h
  have e0 : O ≠ p := by omega
  have e1 : P ≠ p := by omega
  refine k_Pr_add hO ho hx ?_
  rw [r0, n0, hn, Int.toNat_natCast]
  refine ⟨h1, k0, ⟨by omega, by omega⟩, fun y => absurd y (by omega), fun _ => ⟨by omega, fun M13 e13 => ?_⟩⟩
  have a13 : mI M13 p = mI M p := by rw [e13]; funext j; rw [mI_UI, if_neg (fun q => e0 q.1.symm)]
  have R13 : mR M13 = mR M := by rw [e13]; rfl
  have K13 : mK M13 = mK M := by rw [e13]; rfl
  have N13 : mN M13 = mN M := by rw [e13]; rfl
  rw [R13, K13, N13, r1, n1, a13, hn, Int.toNat_natCast]
  refine ⟨k1, by omega, fun M17 e17 => ?_⟩
  have a17 : mI M17 p = mI M p := by rw [e17]; funext j; rw [mI_UI, if_neg (fun q => e1 q.1.symm), a13]
  rw [a17, hn]
  refine ⟨⟨by omega, by omega⟩, fun M20 e20 => ?_⟩
  have o13 : mOk M13 := by rw [e13]; exact mOk_UI hO ho
  have o17 : mOk M17 := by rw [e17]; exact mOk_UI o13 hx
  have o20 : mOk M20 := by rw [e20]; exact mOk_UI o17 ⟨by omega, by omega⟩
  have g13 : FI (prS p O P) M M13 := by rw [e13]; exact FI.ui (Or.inr (Or.inl rfl))
  have g17 : FI (prS p O P) M13 M17 := by rw [e17]; exact FI.ui (Or.inr (Or.inr rfl))
  have g20 : FI (prS p O P) M17 M20 := by rw [e20]; exact FI.ui (Or.inl rfl)
  have ap : ∀ j, mI M20 p j = if j = 2 then (n : Int) + 1 else mI M p j := fun j => by
    rw [e20, mI_UI]
    by_cases y : j = 2
    · rw [if_pos ⟨rfl, y⟩, if_pos y]
    · rw [if_neg (fun q => y q.2), if_neg y, a17]
  refine ⟨by rw [ap, if_pos rfl]; omega, o20, (g13.trans g17).trans g20, ap, fun j => ?_, fun j => ?_⟩
  · rw [e20, mI_UI, if_neg (fun q => e0 q.1), e17, mI_UI, if_neg (fun q => a2 q.1), e13, mI_UI]
    by_cases y : j = n
    · rw [if_pos ⟨rfl, y⟩, if_pos y]
    · rw [if_neg (fun q => y q.2), if_neg y]
  · rw [e20, mI_UI, if_neg (fun q => e1 q.1), e17, mI_UI]
    by_cases y : j = n
    · rw [if_pos ⟨rfl, y⟩, if_pos y]
    · rw [if_neg (fun q => y q.2), if_neg y, e13, mI_UI, if_neg (fun q => a2 q.1.symm)]
/-- how a program's arrays grew -/
def grp (M : mM) (O P C : Nat) (M' : mM) (O' P' C' : Nat) : Prop := (O' = O ∧ P' = P ∧ C' = C ∧ mZ M' = mZ M ∧ mS M' = mS M) ∨ (O' = mZ M ∧ P' = mZ M + 1 ∧ 2 * C ≤ C' ∧ mZ M' = mZ M + 2 ∧ mS M' = mS M + 2 * C')
/-- a program that is cleared, with room for q orders -/
def pcQ (M : mM) (z p O P C q : Nat) (M' : mM) : Prop := ∃ O' P' C', mOk M' ∧ PK M' z p O' P' C' ∧ q ≤ C' ∧ C' ≤ C + 2 * q ∧ FA (fun x => x = p ∨ x = p + 12) (fun x => x = p) M M' ∧ (mI M' p 2 = 0 ∧ mI M' p 3 = 0 ∧ mI M' p 7 = 0 ∧ mI M' p 12 = 0 ∧ mI M' p 11 = -1) ∧ mI M' (p + 12) 0 = 0 ∧ grp M O P C M' O' P' C'
theorem s_Pr_clear {q : Nat} (hO : mOk M) (h : PK M z p O P C) (hq : q ≤ 16400) : Cv G y_Pr_clear d [vr p, vi q] M (pcQ M z p O P C q) := by
  have wl : p < mZ M ∧ p + 12 < mZ M := by have := h.2.2.2.1.2.2.2; have := h.2.2.2.2.1.1; omega
  refine k_Pr_clear hO ⟨by omega, by omega⟩ ⟨h.1, fun M2 e2 M4 e4 M6 e6 M8 e8 M10 e10 => ?_⟩
  have f10 : FI (fun x => x = p ∨ x = p + 12) M M10 := by
    have g2 : FI (fun x => x = p ∨ x = p + 12) M M2 := by rw [e2]; exact FI.ui (Or.inl rfl)
    have g4 : FI (fun x => x = p ∨ x = p + 12) M2 M4 := by rw [e4]; exact FI.ui (Or.inl rfl)
    have g6 : FI (fun x => x = p ∨ x = p + 12) M4 M6 := by rw [e6]; exact FI.ui (Or.inl rfl)
    have g8 : FI (fun x => x = p ∨ x = p + 12) M6 M8 := by rw [e8]; exact FI.ui (Or.inl rfl)
    have g10 : FI (fun x => x = p ∨ x = p + 12) M8 M10 := by rw [e10]; exact FI.ui (Or.inl rfl)
    exact (((g2.trans g4).trans g6).trans g8).trans g10
  have o10 : mOk M10 := by
    have o2 : mOk M2 := by rw [e2]; exact mOk_UI hO ⟨by decide, by decide⟩
    have o4 : mOk M4 := by rw [e4]; exact mOk_UI o2 ⟨by decide, by decide⟩
    have o6 : mOk M6 := by rw [e6]; exact mOk_UI o4 ⟨by decide, by decide⟩
    have o8 : mOk M8 := by rw [e8]; exact mOk_UI o6 ⟨by decide, by decide⟩
    rw [e10]; exact mOk_UI o8 ⟨by decide, by decide⟩
  have v10 : mI M10 p 2 = 0 ∧ mI M10 p 3 = 0 ∧ mI M10 p 7 = 0 ∧ mI M10 p 12 = 0 ∧ mI M10 p 11 = -1 := by
    subst e10 e8 e6 e4 e2
    simp [mI_UI]
  have k10 := h.fi f10
  obtain ⟨-, -, -, -, -, -, PL10⟩ := id k10
  rw [show mR M10 p 16 = p + 12 from PL10.1.2.2.2.2.2.2.2.2.2.1, show mN M10 (p + 12) = 61 from PL10.2.2.2.2.2.2.2.2.2.2.2.1]
  refine ⟨PL10.2.1.2.2.2.2.2.2.2.2.2.1, by omega, fun M14 e14 => ?_⟩
  have f14 : FI (fun x => x = p ∨ x = p + 12) M M14 := f10.trans (by rw [e14]; exact FI.ui (Or.inr rfl))
  have o14 : mOk M14 := by rw [e14]; exact mOk_UI o10 ⟨by decide, by decide⟩
  have v14 : (mI M14 p 2 = 0 ∧ mI M14 p 3 = 0 ∧ mI M14 p 7 = 0 ∧ mI M14 p 12 = 0 ∧ mI M14 p 11 = -1) ∧ mI M14 (p + 12) 0 = 0 := by
    have e : mI M14 p = mI M10 p := by rw [e14]; funext j; rw [mI_UI, if_neg (fun y => by omega)]
    rw [e]
    exact ⟨v10, by rw [e14, mI_UI, if_pos ⟨rfl, rfl⟩]⟩
  have k14 := h.fi f14
  have Z14 : mZ M14 = mZ M := f14.2.2.2.2.1
  have S14 : mS M14 = mS M := f14.2.2.2.2.2.1
  clear e2 e4 e6 e8 e10 e14 k10 PL10 v10 o10 f10
  obtain ⟨h1, ⟨r0, r1⟩, ⟨k0, k1, n0, n1⟩, ⟨a0, a1, a2, a3⟩, ⟨z1, z2, z3⟩, ⟨b1, b2⟩, hPL⟩ := id k14
  rw [r0, n0]
  refine ⟨k0, ?_⟩
  suffices H : ∀ (t i l : Nat), 8 ≤ i + t → i ≤ 8 → 128 * 2 ^ i ≤ l → ((i = 0 ∧ l = C) ∨ (2 * C ≤ l ∧ l ≤ 2 * q)) → h_Pr_clear_40 G d p q l i M14 (pcQ M z p O P C q) from H 8 0 C (by omega) (by omega) (by simpa using b1) (Or.inl ⟨rfl, rfl⟩)
  have fin : ∀ {l : Nat}, q ≤ l → (l = C ∨ (2 * C ≤ l ∧ l ≤ 2 * q)) → mK M14 p = 6 ∧ mK M14 (mR M14 p 0) = 30 ∧ i32 (mN M14 (mR M14 p 0) : Int) ∧ (((l : Int) ≤ (mN M14 (mR M14 p 0) : Int)) → (pcQ M z p O P C q M14)) ∧ (¬ ((l : Int) ≤ (mN M14 (mR M14 p 0) : Int)) → (((0 : Int) ≤ l ∧ (l : Int) ≤ 16777216) ∧ ∀ M30, M30 = mNew M14 30 (Int.toNat l) (Int.toNat l) → mK M30 p = 6 ∧ ∀ M33, M33 = mUR M30 p 0 (mZ M14) → ((0 : Int) ≤ l ∧ (l : Int) ≤ 16777216) ∧ ∀ M36, M36 = mNew M33 30 (Int.toNat l) (Int.toNat l) → mK M36 p = 6 ∧ ∀ M39, M39 = mUR M36 p 1 (mZ M33) → pcQ M z p O P C q M39)) := fun {l} hl hd => by
    rw [r0, n0, Int.toNat_natCast]
    have F14 : FA (fun x => x = p ∨ x = p + 12) (fun x => x = p) M M14 := FI.fa f14
    refine ⟨h1, k0, ⟨by omega, by omega⟩, fun y => ⟨O, P, C, o14, k14, by omega, by omega, F14, v14.1, v14.2, Or.inl ⟨rfl, rfl, rfl, Z14, S14⟩⟩, fun y => ⟨by omega, fun M30 e30 => ?_⟩⟩
    have g30 : FA (fun _ => False) (fun x => x = p) M14 M30 := FA.new e30
    have Z30 : mZ M30 = mZ M14 + 1 := by rw [e30]; rfl
    have pz : p < mZ M14 := by omega
    refine ⟨by rw [(g30.2 p pz).1]; exact h1, fun M33 e33 => ⟨by omega, fun M36 e36 => ?_⟩⟩
    have g33 := g30.trans (FA.ur (S := fun _ => False) (R := fun x => x = p) rfl e33)
    have Z33 : mZ M33 = mZ M14 + 1 := by rw [e33]; exact Z30
    have g36 := g33.trans (FA.new (S := fun _ => False) (R := fun x => x = p) e36)
    have Z36 : mZ M36 = mZ M14 + 2 := by rw [e36, mZ_New, Z33]
    refine ⟨by rw [(g36.2 p pz).1]; exact h1, fun M39 e39 => ?_⟩
    have g39 := g36.trans (FA.ur (S := fun _ => False) (R := fun x => x = p) rfl e39)
    have Z39 : mZ M39 = mZ M14 + 2 := by rw [e39]; exact Z36
    have S39 : mS M39 = mS M14 + 2 * l := by
      rw [e39, mS_UR, e36, mS_New, e33, mS_UR, e30, mS_New]
      omega
    have K39 : ∀ x, mK M39 x = if x = mZ M14 + 1 then 30 else if x = mZ M14 then 30 else mK M14 x := fun x => by
      rw [e39, mK_UR, e36, mK_New, Z33, e33, mK_UR, e30, mK_New]
    have N39 : ∀ x, mN M39 x = if x = mZ M14 + 1 then l else if x = mZ M14 then l else mN M14 x := fun x => by
      rw [e39, mN_UR, e36, mN_New, Z33, e33, mN_UR, e30, mN_New]
    have R39 : ∀ i, mR M39 p i = if i = 1 then mZ M14 + 1 else if i = 0 then mZ M14 else mR M14 p i := fun i => by
      rw [e39, mR_UR, Z33]
      by_cases y1 : i = 1
      · rw [if_pos ⟨rfl, y1⟩, if_pos y1]
      · rw [if_neg (fun q => y1 q.2), if_neg y1, e36, mR_New, if_neg (by omega), e33, mR_UR]
        by_cases y0 : i = 0
        · rw [if_pos ⟨rfl, y0⟩, if_pos y0]
        · rw [if_neg (fun q => y0 q.2), if_neg y0, e30, mR_New, if_neg (by omega)]
    have o30 : mOk M30 := by rw [e30]; exact mOk_New o14
    have o33 : mOk M33 := by rw [e33]; exact mOk_UR o30
    have o36 : mOk M36 := by rw [e36]; exact mOk_New o33
    have o39 : mOk M39 := by rw [e39]; exact mOk_UR o36
    have l2 : 2 * C ≤ l ∧ l ≤ 2 * q := by omega
    have pl : PL M39 p := by
      have kk : ∀ i, i ≤ 15 → mK M39 (p + i) = mK M14 (p + i) := fun i hi => (g39.2 (p + i) (by omega)).1
      have nn : ∀ i, i ≤ 15 → mN M39 (p + i) = mN M14 (p + i) := fun i hi => (g39.2 (p + i) (by omega)).2.1
      have rr : ∀ i, i ≠ 0 → i ≠ 1 → mR M39 p i = mR M14 p i := fun i i0 i1 => by rw [R39, if_neg i1, if_neg i0]
      unfold PL at hPL ⊢
      rw [rr 4 (by decide) (by decide), rr 5 (by decide) (by decide), rr 6 (by decide) (by decide), rr 8 (by decide) (by decide), rr 9 (by decide) (by decide), rr 10 (by decide) (by decide), rr 13 (by decide) (by decide), rr 14 (by decide) (by decide), rr 15 (by decide) (by decide), rr 16 (by decide) (by decide), rr 17 (by decide) (by decide), rr 18 (by decide) (by decide), rr 19 (by decide) (by decide), kk 3 (by omega), kk 4 (by omega), kk 5 (by omega), kk 6 (by omega), kk 7 (by omega), kk 8 (by omega), kk 9 (by omega), kk 10 (by omega), kk 11 (by omega), kk 12 (by omega), kk 13 (by omega), kk 14 (by omega), kk 15 (by omega), nn 3 (by omega), nn 4 (by omega), nn 5 (by omega), nn 6 (by omega), nn 7 (by omega), nn 8 (by omega), nn 9 (by omega), nn 10 (by omega), nn 11 (by omega), nn 12 (by omega), nn 13 (by omega), nn 14 (by omega), nn 15 (by omega)]
      exact hPL
    have vI : mI M39 p = mI M14 p := (g39.2 p pz).2.2.2.2 (fun q => q)
    have vJ : mI M39 (p + 12) = mI M14 (p + 12) := (g39.2 (p + 12) (by omega)).2.2.2.2 (fun q => q)
    refine ⟨mZ M14, mZ M14 + 1, l, o39, ⟨by rw [(g39.2 p pz).1]; exact h1, ⟨by rw [R39, if_neg (by decide), if_pos rfl], by rw [R39, if_pos rfl]⟩, ⟨by rw [K39, if_neg (by omega), if_pos rfl], by rw [K39, if_pos rfl], by rw [N39, if_neg (by omega), if_pos rfl], by rw [N39, if_pos rfl]⟩, ⟨Or.inr z1, Or.inr (by omega), by omega, a3⟩, ⟨by omega, by omega, by omega⟩, ⟨by omega, by omega⟩, pl⟩, hl, by omega, F14.trans2 g39 (fun _ _ q => q.elim) (fun _ _ q => q), by rw [vI]; exact v14.1, by rw [vJ]; exact v14.2, Or.inr ⟨by omega, by omega, l2.1, by omega, by omega⟩⟩
  intro t
  induction t with
  | zero =>
    intro i l hi hi8 hl hd
    have i8 : i = 8 := by omega
    subst i8
    refine k_Pr_clear_40 o14 ⟨by omega, by omega⟩ ⟨by omega, by omega⟩ ⟨by omega, by omega⟩ ⟨fun y => fin (by omega) (by omega), fun y => absurd (Or.inr (by omega)) y⟩
  | succ t ih =>
    intro i l hi hi8 hl hd
    refine k_Pr_clear_40 o14 ⟨by omega, by omega⟩ ⟨by omega, by omega⟩ ⟨by omega, by omega⟩ ⟨fun y => fin (by omega) (by omega), fun y => ?_⟩
    have y1 : l < q := by omega
    by_cases e8 : i = 8
    · subst e8
      omega
    · have e2 : 128 * 2 ^ (i + 1) = 2 * (128 * 2 ^ i) := by rw [Nat.pow_succ]; omega
      have := ih (i + 1) (l * 2) (by omega) (by omega) (by omega) (Or.inr (by omega))
      rw [show ((l * 2 : Nat) : Int) = (l : Int) * 2 by omega, show ((i + 1 : Nat) : Int) = (i : Int) + 1 by omega] at this
      exact this
end PRG
end
section
/-! The class's reader of rules: places, and its small steps. -/
section RRD
variable {G : mG} {d z r w T A B D N C n p O P K k a : Nat} {M M' M1 M2 : mM} {S : Nat → Prop}
/-- the reader's places -/
def RK (M : mM) (r : Nat) : Prop := mK M r = 4 ∧ (mR M r 8 = r + 1 ∧ mR M r 9 = r + 2 ∧ mR M r 10 = r + 3 ∧ mR M r 11 = r + 4 ∧ mR M r 13 = r + 5 ∧ mR M r 15 = r + 6 ∧ mR M r 16 = r + 7 ∧ mR M r 17 = r + 8 ∧ mR M r 18 = r + 9) ∧ (mK M (r + 1) = 30 ∧ mK M (r + 2) = 30 ∧ mK M (r + 3) = 30 ∧ mK M (r + 4) = 30 ∧ mK M (r + 5) = 31 ∧ mK M (r + 6) = 30 ∧ mK M (r + 7) = 30 ∧ mK M (r + 8) = 30 ∧ mK M (r + 9) = 31) ∧ (mN M (r + 1) = 336 ∧ mN M (r + 2) = 336 ∧ mN M (r + 3) = 336 ∧ mN M (r + 4) = 336 ∧ mN M (r + 5) = 336 ∧ mN M (r + 6) = 72 ∧ mN M (r + 7) = 72 ∧ mN M (r + 8) = 72 ∧ mN M (r + 9) = 72)
theorem RK.fi (h : RK M r) (f : FI S M M') : RK M' r := by
  obtain ⟨f1, f2, f3, -⟩ := f
  unfold RK at h ⊢
  rw [f1, f2, f3]
  exact h
/-- the cells that reading a rule may change -/
def rdS (r p O P : Nat) : Nat → Prop := fun x => (r ≤ x ∧ x ≤ r + 9) ∨ x = p ∨ x = O ∨ x = P
/-- words, program and reader lie apart -/
def Spr (z r w T A B D p O P : Nat) : Prop := r + 9 < z ∧ (r + 9 < p ∨ p + 15 < r) ∧ ∀ x, (x = w ∨ x = T ∨ x = A ∨ x = B ∨ x = D) → ¬ ((r ≤ x ∧ x ≤ r + 9) ∨ (p ≤ x ∧ x ≤ p + 15) ∨ x = O ∨ x = P)
/-- the reader while it reads: words w, program p -/
def RB (M : mM) (z r w T A B D N C n p O P K : Nat) : Prop := mOk M ∧ RK M r ∧ (mR M r 0 = w ∧ mR M r 1 = p) ∧ Wf M w T A B D N C n ∧ PK M z p O P K ∧ Spr z r w T A B D p O P ∧ n + 1 ≤ K
theorem Wf.fi (h : Wf M w T A B D N C n) (f : FI S M M') (hS : ∀ x, (x = w ∨ x = T ∨ x = A ∨ x = B ∨ x = D) → ¬ S x) : Wf M' w T A B D N C n := by
  obtain ⟨f1, f2, f3, f4, f5, f6, f7⟩ := f
  unfold Wf WA at h ⊢
  rw [f1, f2, f3, f7 w (hS w (Or.inl rfl)), f7 A (hS A (Or.inr (Or.inr (Or.inl rfl)))), f7 B (hS B (Or.inr (Or.inr (Or.inr (Or.inl rfl))))), f7 D (hS D (Or.inr (Or.inr (Or.inr (Or.inr rfl)))))]
  exact h
theorem RB.fi (h : RB M z r w T A B D N C n p O P K) (o : mOk M') (f : FI (rdS r p O P) M M') : RB M' z r w T A B D N C n p O P K := by
  obtain ⟨-, h2, h3, h4, h5, h6, h7⟩ := h
  refine ⟨o, h2.fi f, by rw [f.2.2.1]; exact h3, h4.fi f (fun x hx q => h6.2.2 x hx ?_), h5.fi f, h6, h7⟩
  have q' : (r ≤ x ∧ x ≤ r + 9) ∨ x = p ∨ x = O ∨ x = P := q
  omega
/-- a field of the reader is written -/
theorem rb_fld {j : Nat} {v : Int} (h : RB M z r w T A B D N C n p O P K) (hv : i32 v) (e : M' = mUI M r j v) : RB M' z r w T A B D N C n p O P K ∧ FI (rdS r p O P) M M' ∧ (∀ i, mI M' r i = if i = j then v else mI M r i) ∧ (∀ x, x ≠ r → mI M' x = mI M x) := by
  have f : FI (rdS r p O P) M M' := by rw [e]; exact FI.ui (Or.inl ⟨Nat.le_refl _, by omega⟩)
  refine ⟨h.fi (by rw [e]; exact mOk_UI h.1 hv) f, f, fun i => ?_, fun x hx => ?_⟩
  · rw [e, mI_UI]
    by_cases y : i = j
    · rw [if_pos ⟨rfl, y⟩, if_pos y]
    · rw [if_neg (fun q => y q.2), if_neg y]
  · rw [e]; funext i; rw [mI_UI, if_neg (fun q => hx q.1)]
/-- a place of the reader's tables is written -/
theorem rb_tab {i j : Nat} {v : Int} (h : RB M z r w T A B D N C n p O P K) (h1 : 1 ≤ i) (h9 : i ≤ 9) (hv : i32 v) (e : M' = mUI M (r + i) j v) : RB M' z r w T A B D N C n p O P K ∧ FI (rdS r p O P) M M' ∧ (∀ x, mI M' (r + i) x = if x = j then v else mI M (r + i) x) ∧ (∀ x, x ≠ r + i → mI M' x = mI M x) := by
  have f : FI (rdS r p O P) M M' := by rw [e]; exact FI.ui (Or.inl ⟨by omega, by omega⟩)
  refine ⟨h.fi (by rw [e]; exact mOk_UI h.1 hv) f, f, fun x => ?_, fun x hx => ?_⟩
  · rw [e, mI_UI]
    by_cases y : x = j
    · rw [if_pos ⟨rfl, y⟩, if_pos y]
    · rw [if_neg (fun q => y q.2), if_neg y]
  · rw [e]; funext i; rw [mI_UI, if_neg (fun q => hx q.1)]
theorem s_RR_here (h : RB M z r w T A B D N C n p O P K) (ha : mI M r 2 = a) (han : a ≤ n) : Ci G y_RR_here d [vr r] M (fun x M' => M' = M ∧ x = mI M B a ∧ 0 ≤ x ∧ x ≤ 16384) := by
  obtain ⟨hO, hK, ⟨r0, r1⟩, hW, -⟩ := id h
  obtain ⟨⟨w1, ⟨p0, p3, p4, p5⟩, -, ⟨k3, k4, k5⟩, ⟨c3, c4, c5⟩, w6, w7, w8, -⟩, e2, hnN, hw, hA, hB⟩ := id hW
  refine k_RR_here hO ?_
  rw [r0, p4, ha, Int.toNat_natCast, c4]
  refine ⟨hK.1, w1, k4, by omega, rfl, rfl, ?_⟩
  by_cases y : a = n
  · rw [y, hB]
    omega
  · have := (hw a (by omega)).2.1
    omega
theorem s_RR_accept {x : Int} (hx : i32 x) (h : RB M z r w T A B D N C n p O P K) (ha : mI M r 2 = a) (han : a ≤ n) : Ci G y_RR_accept d [vr r, vi x] M (fun v M' => RB M' z r w T A B D N C n p O P K ∧ ((v = 1 ∧ mI M A a = x ∧ M' = mUI M r 2 ((a : Int) + 1) ∧ mI M' r 2 = a + 1) ∨ (v = 0 ∧ mI M A a ≠ x ∧ M' = M))) := by
  obtain ⟨hO, hK, ⟨r0, r1⟩, hW, -⟩ := id h
  obtain ⟨⟨w1, ⟨p0, p3, p4, p5⟩, -, ⟨k3, k4, k5⟩, ⟨c3, c4, c5⟩, w6, w7, w8, -⟩, e2, hnN, hw, hA, hB⟩ := id hW
  refine k_RR_accept hO hx ?_
  rw [r0, p3, ha, Int.toNat_natCast, c3]
  refine ⟨hK.1, w1, k3, by omega, fun y => ⟨⟨by omega, by omega⟩, fun M9 e9 => ?_⟩, fun y => ⟨h, Or.inr ⟨rfl, y, rfl⟩⟩⟩
  obtain ⟨h9, f9, g9, -⟩ := rb_fld h ⟨by omega, by omega⟩ e9
  exact ⟨h9, Or.inl ⟨rfl, y, e9, by rw [g9, if_pos rfl]⟩⟩
theorem s_RR_note {x y : Int} (hx : i32 x) (hy : i32 y) (h : RB M z r w T A B D N C n p O P K) : Cv G y_RR_note d [vr r, vi x, vi y] M (fun M' => RB M' z r w T A B D N C n p O P K ∧ FI (fun b => b = r) M M' ∧ (∀ i, i ≠ 3 → i ≠ 4 → mI M' r i = mI M r i) ∧ (mI M r 3 = 0 → mI M' r 3 = x) ∧ (mI M r 3 ≠ 0 → mI M' r 3 = mI M r 3)) := by
  refine k_RR_note h.1 hx hy ⟨h.2.1.1, fun e M5 e5 M7 e7 => ?_, fun e => ⟨h, FI.refl, fun _ _ _ => rfl, fun q => absurd q e, fun _ => rfl⟩⟩
  obtain ⟨h5, -, g5, -⟩ := rb_fld h hx e5
  obtain ⟨h7, -, g7, -⟩ := rb_fld h5 hy e7
  have f5 : FI (fun b => b = r) M M5 := by rw [e5]; exact FI.ui rfl
  have f7 : FI (fun b => b = r) M5 M7 := by rw [e7]; exact FI.ui rfl
  exact ⟨h7, f5.trans f7, fun i i3 i4 => by rw [g7, if_neg i4, g5, if_neg i3], fun _ => by rw [g7, if_neg (by decide), g5, if_pos rfl], fun q => absurd e q⟩
/-- how tight an operation binds -/
def lvl (o : Int) : Int := if 19 ≤ o ∧ o ≤ 24 then 4 else if o = 25 ∨ o = 26 then 5 else if 27 ≤ o ∧ o ≤ 29 then 6 else if o = 30 then 2 else if o = 31 then 1 else if o = 41 then 3 else 0
theorem s_RR_level {o : Int} (ho : i32 o) (hO : mOk M) : Ci G y_RR_level d [vi o] M (fun x M' => M' = M ∧ x = lvl o) := by
  refine k_RR_level hO ho ⟨fun q => ⟨rfl, ?_⟩, fun q1 => ⟨fun q => ⟨rfl, ?_⟩, fun q2 => ⟨fun q => ⟨rfl, ?_⟩, fun q3 => ⟨fun q => ⟨rfl, ?_⟩, fun q4 => ⟨fun q => ⟨rfl, ?_⟩, fun q5 => ⟨fun q => ⟨rfl, ?_⟩, fun q6 => ⟨rfl, ?_⟩⟩⟩⟩⟩⟩⟩ <;> unfold lvl <;> (repeat' split) <;> omega
theorem lvl_b (o : Int) : 0 ≤ lvl o ∧ lvl o ≤ 6 := by unfold lvl; (repeat' split) <;> omega
/-- a kind is put on the pile -/
theorem s_RR_pushKind {v : Int} {c : Nat} (hv : v = 0 ∨ v = 1) (h : RB M z r w T A B D N C n p O P K) (hc : mI M r 14 = c) (h3 : c < 336) : Cv G y_RR_pushKind d [vr r, vi v] M (fun M' => RB M' z r w T A B D N C n p O P K ∧ FI (fun b => b = r ∨ b = r + 5) M M' ∧ (∀ i, mI M' r i = if i = 14 then (c : Int) + 1 else mI M r i) ∧ (∀ i, mI M' (r + 5) i = if i = c then v else mI M (r + 5) i)) := by
  obtain ⟨hO, hK, -⟩ := id h
  obtain ⟨k0, ⟨-, -, -, -, q13, -⟩, ⟨-, -, -, -, k5, -⟩, ⟨-, -, -, -, n5, -⟩⟩ := id hK
  refine k_RR_pushKind hO (i32s (by omega) (by omega)) ⟨k0, fun y => absurd y (by omega), fun y => ⟨⟨by omega, by omega⟩, fun M10 e10 => ?_⟩⟩
  rw [hc] at e10
  obtain ⟨h10, -, g10, u10⟩ := rb_fld h ⟨by omega, by omega⟩ e10
  obtain ⟨-, hK10, -⟩ := id h10
  rw [q13, hc, Int.toNat_natCast, show mN M10 (r + 5) = 336 from hK10.2.2.2.2.2.2.2.1]
  refine ⟨hK10.2.2.1.2.2.2.2.1, by omega, hv, fun M15 e15 => ?_⟩
  obtain ⟨h15, -, g15, u15⟩ := rb_tab h10 (i := 5) (by omega) (by omega) (i32s (by omega) (by omega)) e15
  have f10 : FI (fun b => b = r ∨ b = r + 5) M M10 := by rw [e10]; exact FI.ui (Or.inl rfl)
  have f15 : FI (fun b => b = r ∨ b = r + 5) M10 M15 := by rw [e15]; exact FI.ui (Or.inr rfl)
  exact ⟨h15, f10.trans f15, fun i => by rw [u15 r (by omega), g10], fun i => by rw [g15, u10 (r + 5) (by omega)]⟩
/-- a kind is taken -/
theorem s_RR_popKind {c : Nat} (h : RB M z r w T A B D N C n p O P K) (hc : mI M r 14 = ((c + 1 : Nat) : Int)) (h3 : c < 336) : Ci G y_RR_popKind d [vr r] M (fun v M' => (v = 0 ∨ v = 1) ∧ RB M' z r w T A B D N C n p O P K ∧ FI (fun b => b = r) M M' ∧ (∀ i, mI M' r i = if i = 14 then (c : Int) else mI M r i)) := by
  obtain ⟨hO, hK, -⟩ := id h
  obtain ⟨k0, ⟨-, -, -, -, q13, -⟩, ⟨-, -, -, -, k5, -⟩, ⟨-, -, -, -, n5, -⟩⟩ := id hK
  refine k_RR_popKind hO ⟨k0, fun y => ?_, fun v e M9 e9 => ?_⟩
  · have o' : mOk (mUI M r 14 ((mI M r 14) - 1)) := mOk_UI hO ⟨by omega, by omega⟩
    refine ⟨⟨by omega, by omega⟩, ?_⟩
    rw [q13, mK_UI, mN_UI, n5]
    exact ⟨k5, by omega, (o' _ _).1⟩
  · rw [if_neg (by omega), hc, show ((c + 1 : Nat) : Int) - 1 = (c : Int) by omega] at e9
    obtain ⟨h9, -, g9, -⟩ := rb_fld h ⟨by omega, by omega⟩ e9
    refine ⟨h9.1, by rw [e]; split <;> omega, h9, by rw [e9]; exact FI.ui rfl, g9⟩
end RRD
end
end
section
section
/-! The class's reader of rules: what its piles hold, and the heights of the code that it makes. -/
section RRH
variable {G : mG} {d z r w T A B D N C n p O P K k a s L V F : Nat} {M M' M1 M2 : mM} {H H' : Nat → Nat} {ns : Nat → Int}
/-- sums over the open operations -/
def sq (f : Nat → Nat) : Nat → Nat
  | 0 => 0
  | i + 1 => sq f i + f i
theorem sq_cg {f g : Nat → Nat} : ∀ (i : Nat), (∀ j, j < i → f j = g j) → sq f i = sq g i
  | 0, _ => rfl
  | i + 1, h => by
    show sq f i + f i = sq g i + g i
    rw [sq_cg i (fun j hj => h j (by omega)), h i (by omega)]
/-- values of the machine that an open operation o with marks m holds -/
def cm (o m : Int) : Nat := if 19 ≤ o ∧ o ≤ 29 then 1 else if (o = 15 ∨ o = 16) ∧ (m = 2 ∨ m = 3) then 1 else 0
/-- kinds that it holds, orders that it will make, levels that it is -/
def ckk (o : Int) : Nat := if 19 ≤ o ∧ o ≤ 31 then 1 else 0
def cee (o : Int) : Nat := if (19 ≤ o ∧ o ≤ 29) ∨ o = 40 ∨ o = 41 then 1 else 0
def cdp (o : Int) : Nat := if o = 15 ∨ o = 16 ∨ o = 33 ∨ o = 37 ∨ o = 40 ∨ o = 41 ∨ o = 42 then 1 else 0
/-- the rank of a sign between two operands -/
def rkk (o : Int) : Nat := if o = 31 then 1 else if o = 30 then 2 else if 19 ≤ o ∧ o ≤ 24 then 3 else if o = 25 ∨ o = 26 then 4 else if 27 ≤ o ∧ o ≤ 29 then 5 else 0
def opn (o : Int) : Prop := o = 15 ∨ o = 16 ∨ (19 ≤ o ∧ o ≤ 31) ∨ o = 33 ∨ o = 37 ∨ o = 40 ∨ o = 41 ∨ o = 42
def jm (o : Int) : Prop := o = 30 ∨ o = 31 ∨ o = 33 ∨ o = 42
def bs (M : mM) (r i : Nat) : Nat := sq (fun j => cm (mI M (r + 1) j) (mI M (r + 4) j)) i
def skk (M : mM) (r i : Nat) : Nat := sq (fun j => ckk (mI M (r + 1) j)) i
def se (M : mM) (r i : Nat) : Nat := sq (fun j => cee (mI M (r + 1) j)) i
def sdp (M : mM) (r i : Nat) : Nat := sq (fun j => cdp (mI M (r + 1) j)) i
/-- an order that goes straight on -/
def stO (V F : Nat) (ns : Nat → Int) (H : Nat → Nat) (pc : Nat) (o x : Int) : Prop :=
  (o = 3 ∧ -999999999 ≤ x ∧ x ≤ 999999999 ∧ H (pc + 1) = H pc + 1) ∨ ((o = 4 ∨ o = 7) ∧ 0 ≤ x ∧ x < F ∧ ns x.toNat = o ∧ H (pc + 1) = H pc + 1) ∨ (o = 5 ∧ 0 ≤ x ∧ x < V ∧ H (pc + 1) = H pc + 1) ∨ ((o = 30 ∨ o = 31 ∨ o = 33) ∧ H (pc + 1) + 1 = H pc) ∨ (o = 42 ∧ 1 ≤ H pc) ∨ ((o = 40 ∨ o = 41) ∧ 1 ≤ H pc ∧ H (pc + 1) = H pc) ∨ ((o = 15 ∨ o = 16 ∨ (19 ≤ o ∧ o ≤ 29)) ∧ 2 ≤ H pc ∧ H (pc + 1) + 1 = H pc) ∨ (o = 43 ∧ 0 ≤ x ∧ x ≤ 1000000 ∧ x % 16 < V ∧ H (pc + 1) + 1 = H pc)
/-- where it may jump to -/
def tgO (H : Nat → Nat) (L pc : Nat) (o x : Int) : Prop := ∃ t : Nat, x = t ∧ pc < t ∧ t ≤ L ∧ (o = 33 → H t + 1 = H pc) ∧ (o ≠ 33 → H t = H pc)
/-- the code from s to L; pd: jumps that are not settled yet -/
def CO (M : mM) (O P V F : Nat) (ns : Nat → Int) (H : Nat → Nat) (s L : Nat) (pd : Nat → Prop) : Prop := ∀ pc, s ≤ pc → pc < L → stO V F ns H pc (mI M O pc) (mI M P pc) ∧ (jm (mI M O pc) → pd pc ∨ tgO H L pc (mI M O pc) (mI M P pc)) ∧ H pc + s ≤ pc
theorem stO.cg {pc : Nat} {o x : Int} (h : stO V F ns H pc o x) (h0 : H' pc = H pc) (h1 : H' (pc + 1) = H (pc + 1)) : stO V F ns H' pc o x := by
  unfold stO at h ⊢
  rw [h0, h1]
  exact h
theorem tgO.cg {L' pc : Nat} {o x : Int} (h : tgO H L pc o x) (hL : L ≤ L') (hp : pc < L) (hH : ∀ i, i ≤ L → H' i = H i) : tgO H' L' pc o x := by
  obtain ⟨t, e, t1, t2, t3, t4⟩ := h
  refine ⟨t, e, t1, by omega, ?_, ?_⟩
  · rw [hH t t2, hH pc (by omega)]
    exact t3
  · rw [hH t t2, hH pc (by omega)]
    exact t4
/-- one order more -/
theorem CO.add {pd pd' : Nat → Prop} {o x : Int} (h : CO M O P V F ns H s L pd) (hsL : s ≤ L) (hH : ∀ i, i ≤ L → H' i = H i) (hb : H L + s ≤ L) (hO : ∀ i, mI M' O i = if i = L then o else mI M O i) (hP : ∀ i, mI M' P i = if i = L then x else mI M P i) (hpd : ∀ i, i < L → pd i → pd' i) (hs : stO V F ns H' L o x) (hj : jm o → pd' L ∨ tgO H' (L + 1) L o x) : CO M' O P V F ns H' s (L + 1) pd' := by
  intro pc h0 h1
  rw [hO, hP]
  by_cases y : pc = L
  · subst y
    rw [if_pos rfl, if_pos rfl]
    exact ⟨hs, hj, by rw [hH pc (Nat.le_refl _)]; exact hb⟩
  · rw [if_neg y, if_neg y]
    obtain ⟨a1, a2, a3⟩ := h pc h0 (by omega)
    refine ⟨a1.cg (hH pc (by omega)) (hH (pc + 1) (by omega)), fun q => ?_, by rw [hH pc (by omega)]; exact a3⟩
    rcases a2 q with u | u
    · exact Or.inl (hpd pc (by omega) u)
    · exact Or.inr (u.cg (by omega) (by omega) hH)
/-- a jump is settled -/
theorem CO.put {pd pd' : Nat → Prop} {t : Nat} {x : Int} (h : CO M O P V F ns H s L pd) (hj : jm (mI M O t)) (hO : ∀ i, mI M' O i = mI M O i) (hP : ∀ i, mI M' P i = if i = t then x else mI M P i) (hpd : ∀ i, i < L → i ≠ t → pd i → pd' i) (ht : tgO H L t (mI M O t) x) : CO M' O P V F ns H s L pd' := by
  intro pc h0 h1
  rw [hO, hP]
  obtain ⟨a1, a2, a3⟩ := h pc h0 h1
  by_cases y : pc = t
  · subst y
    rw [if_pos rfl]
    refine ⟨?_, fun _ => Or.inr ht, a3⟩
    clear h hO hP hpd ht a2 a3
    unfold jm at hj
    rcases a1 with q | q | q | q | q | q | q | q
    · exact absurd q.1 (by omega)
    · exact absurd q.1 (by omega)
    · exact absurd q.1 (by omega)
    · exact Or.inr (Or.inr (Or.inr (Or.inl q)))
    · exact Or.inr (Or.inr (Or.inr (Or.inr (Or.inl q))))
    · exact absurd q.1 (by omega)
    · exact absurd q.1 (by omega)
    · exact absurd q.1 (by omega)
  · rw [if_neg y]
    refine ⟨a1, fun q => ?_, a3⟩
    rcases a2 q with u | u
    · exact Or.inl (hpd pc h1 y u)
    · exact Or.inr u
/-- below a '?' nothing tighter is open -/
def aO (M : mM) (r i : Nat) : Prop := (mI M (r + 1) i = 33 ∨ mI M (r + 1) i = 42) → ∀ j, j + 1 = i → lvl (mI M (r + 1) j) = 0
/-- what an open operation keeps -/
def enO (M : mM) (r O s L : Nat) (H : Nat → Nat) (i : Nat) : Prop := opn (mI M (r + 1) i) ∧ (0 ≤ mI M (r + 2) i ∧ mI M (r + 2) i ≤ 16384) ∧ (0 ≤ mI M (r + 4) i ∧ mI M (r + 4) i ≤ 7) ∧ ((mI M (r + 1) i = 15 ∨ mI M (r + 1) i = 16) → mI M (r + 4) i ≤ 3) ∧ (jm (mI M (r + 1) i) → ∃ t : Nat, mI M (r + 3) i = t ∧ s ≤ t ∧ t < L ∧ mI M O t = mI M (r + 1) i ∧ H t = bs M r i + 1 ∧ (mI M (r + 1) i ≠ 42 → H (t + 1) = bs M r i)) ∧ (¬ jm (mI M (r + 1) i) → mI M (r + 3) i = -1) ∧ aO M r i
def pdg (M : mM) (r k : Nat) (pc : Nat) : Prop := ∃ i, i < k ∧ mI M (r + 3) i = pc ∧ jm (mI M (r + 1) i)
/-- how many operands stand behind the latest sign -/
def uw (wt : Int) : Nat := if wt = 0 then 1 else 0
/-- reading a rule: k operations are open, at word a, L orders -/
def RG (M : mM) (r p O P n s V F : Nat) (ns : Nat → Int) (d0 : Nat) (H : Nat → Nat) (L k a : Nat) (wt : Int) : Prop :=
  (mI M r 2 = a ∧ mI M r 12 = k ∧ mI M r 7 = wt ∧ mI M p 2 = L) ∧ (wt = 0 ∨ wt = 1) ∧ (a ≤ n ∧ s ≤ L) ∧ mI M r 14 = ((uw wt + skk M r k : Nat) : Int) ∧ (mI M r 5 = ((d0 + sdp M r k : Nat) : Int) ∧ d0 + sdp M r k ≤ 40) ∧ (∀ i, i < k → i + 1 ≤ 6 * sdp M r (i + 1) + rkk (mI M (r + 1) i)) ∧ (∀ i, i < k → enO M r O s L H i) ∧ (H L = uw wt + bs M r k ∧ H L + s ≤ L) ∧ CO M O P V F ns H s L (pdg M r k) ∧ L + se M r k ≤ a ∧ (∀ j, mI M (r + 5) j = 0 ∨ mI M (r + 5) j = 1)
theorem rkk_b (o : Int) : rkk o ≤ 5 := by unfold rkk; (repeat' split) <;> omega
theorem skk_le (M : mM) (r : Nat) : ∀ k, skk M r k ≤ k
  | 0 => Nat.le_refl _
  | k + 1 => by
    have h1 := skk_le M r k
    have h2 : ckk (mI M (r + 1) k) ≤ 1 := by unfold ckk; split <;> omega
    have h3 : skk M r (k + 1) = skk M r k + ckk (mI M (r + 1) k) := rfl
    omega
/-- there is room on the piles -/
theorem RG.room {d0 : Nat} {wt : Int} (h : RG M r p O P n s V F ns d0 H L k a wt) : k ≤ 245 ∧ uw wt + skk M r k ≤ 246 := by
  obtain ⟨-, h2, -, -, ⟨-, h5⟩, h6, -⟩ := h
  have hk : k ≤ 245 := by
    by_cases y : k = 0
    · omega
    · have a1 := h6 (k - 1) (by omega)
      have a2 := rkk_b (mI M (r + 1) (k - 1))
      rw [show k - 1 + 1 = k by omega] at a1
      omega
  have := skk_le M r k
  have hu : uw wt ≤ 1 := by unfold uw; split <;> omega
  exact ⟨hk, by omega⟩
/-- the sums look at the piles alone -/
theorem sums_cg (h1 : ∀ j, j < k → mI M' (r + 1) j = mI M (r + 1) j) (h4 : ∀ j, j < k → mI M' (r + 4) j = mI M (r + 4) j) : ∀ i, i ≤ k → bs M' r i = bs M r i ∧ skk M' r i = skk M r i ∧ se M' r i = se M r i ∧ sdp M' r i = sdp M r i := fun i hi =>
  ⟨sq_cg i (fun j hj => by rw [h1 j (by omega), h4 j (by omega)]), sq_cg i (fun j hj => by rw [h1 j (by omega)]), sq_cg i (fun j hj => by rw [h1 j (by omega)]), sq_cg i (fun j hj => by rw [h1 j (by omega)])⟩
end RRH
end
section
/-! The class's reader of rules: push, mayDeny, takeValue, takeLevel. -/
section RRP
variable {G : mG} {d z r w T A B D N C n p O P K k a s L V F d0 : Nat} {M M' M1 M2 : mM} {H H' : Nat → Nat} {ns : Nat → Int} {wt : Int}
theorem s_RR_push {o pl od : Int} (ho : i32 o) (hpl : i32 pl) (hod : i32 od) (h : RB M z r w T A B D N C n p O P K) (hk : mI M r 12 = k) (hk3 : k < 336) (ha : mI M r 2 = a) (ha2 : a ≤ 16384) : Cv G y_RR_push d [vr r, vi o, vi pl, vi od] M (fun M' => RB M' z r w T A B D N C n p O P K ∧ FI (fun b => r ≤ b ∧ b ≤ r + 4) M M' ∧ (∀ i, mI M' r i = if i = 2 then (a : Int) + 1 else if i = 7 then 1 else if i = 12 then (k : Int) + 1 else mI M r i) ∧ (∀ i, mI M' (r + 1) i = if i = k then o else mI M (r + 1) i) ∧ (∀ i, mI M' (r + 2) i = if i = k then pl else mI M (r + 2) i) ∧ (∀ i, mI M' (r + 3) i = if i = k then od else mI M (r + 3) i) ∧ (∀ i, mI M' (r + 4) i = if i = k then 0 else mI M (r + 4) i)) := by
  have q8 : ∀ {Mx : mM}, RB Mx z r w T A B D N C n p O P K → (mR Mx r 8 = r + 1 ∧ mR Mx r 9 = r + 2 ∧ mR Mx r 10 = r + 3 ∧ mR Mx r 11 = r + 4) ∧ (mK Mx (r + 1) = 30 ∧ mK Mx (r + 2) = 30 ∧ mK Mx (r + 3) = 30 ∧ mK Mx (r + 4) = 30) ∧ (mN Mx (r + 1) = 336 ∧ mN Mx (r + 2) = 336 ∧ mN Mx (r + 3) = 336 ∧ mN Mx (r + 4) = 336) := fun hx => by
    obtain ⟨-, ⟨-, ⟨a1, a2, a3, a4, -⟩, ⟨b1, b2, b3, b4, -⟩, ⟨c1, c2, c3, c4, -⟩⟩, -⟩ := hx
    exact ⟨⟨a1, a2, a3, a4⟩, ⟨b1, b2, b3, b4⟩, ⟨c1, c2, c3, c4⟩⟩
  refine k_RR_push h.1 ho hpl hod ⟨h.2.1.1, fun y => absurd y (by omega), fun _ => ?_⟩
  rw [(q8 h).1.1, hk, Int.toNat_natCast, (q8 h).2.2.1]
  refine ⟨(q8 h).2.1.1, by omega, fun M16 e16 => ?_⟩
  obtain ⟨h16, f16, g16, u16⟩ := rb_tab h (i := 1) (by omega) (by omega) ho e16
  rw [(q8 h16).1.2.1, u16 r (by omega), hk, Int.toNat_natCast, (q8 h16).2.2.2.1]
  refine ⟨(q8 h16).2.1.2.1, by omega, fun M20 e20 => ?_⟩
  obtain ⟨h20, f20, g20, u20⟩ := rb_tab h16 (i := 2) (by omega) (by omega) hpl e20
  rw [(q8 h20).1.2.2.1, u20 r (by omega), u16 r (by omega), hk, Int.toNat_natCast, (q8 h20).2.2.2.2.1]
  refine ⟨(q8 h20).2.1.2.2.1, by omega, fun M24 e24 => ?_⟩
  obtain ⟨h24, f24, g24, u24⟩ := rb_tab h20 (i := 3) (by omega) (by omega) hod e24
  rw [(q8 h24).1.2.2.2, u24 r (by omega), u20 r (by omega), u16 r (by omega), hk, Int.toNat_natCast, (q8 h24).2.2.2.2.2]
  refine ⟨(q8 h24).2.1.2.2.2, by omega, fun M28 e28 => ?_⟩
  obtain ⟨h28, f28, g28, u28⟩ := rb_tab h24 (i := 4) (by omega) (by omega) (v := 0) (i32s (by omega) (by omega)) e28
  have r28 : mI M28 r = mI M r := by rw [u28 r (by omega), u24 r (by omega), u20 r (by omega), u16 r (by omega)]
  rw [r28, hk]
  refine ⟨⟨by omega, by omega⟩, fun M31 e31 M33 e33 => ?_⟩
  obtain ⟨h31, f31, g31, u31⟩ := rb_fld h28 ⟨by omega, by omega⟩ e31
  obtain ⟨h33, f33, g33, u33⟩ := rb_fld h31 (v := 1) (i32s (by omega) (by omega)) e33
  have e2 : mI M33 r 2 = a := by rw [g33, if_neg (by decide), g31, if_neg (by decide), r28, ha]
  rw [e2]
  refine ⟨⟨by omega, by omega⟩, fun M36 e36 => ?_⟩
  obtain ⟨h36, f36, g36, u36⟩ := rb_fld h33 ⟨by omega, by omega⟩ e36
  have fi : FI (fun b => r ≤ b ∧ b ≤ r + 4) M M36 := by
    have x16 : FI (fun b => r ≤ b ∧ b ≤ r + 4) M M16 := by rw [e16]; exact FI.ui ⟨by omega, by omega⟩
    have x20 : FI (fun b => r ≤ b ∧ b ≤ r + 4) M16 M20 := by rw [e20]; exact FI.ui ⟨by omega, by omega⟩
    have x24 : FI (fun b => r ≤ b ∧ b ≤ r + 4) M20 M24 := by rw [e24]; exact FI.ui ⟨by omega, by omega⟩
    have x28 : FI (fun b => r ≤ b ∧ b ≤ r + 4) M24 M28 := by rw [e28]; exact FI.ui ⟨by omega, by omega⟩
    have x31 : FI (fun b => r ≤ b ∧ b ≤ r + 4) M28 M31 := by rw [e31]; exact FI.ui ⟨by omega, by omega⟩
    have x33 : FI (fun b => r ≤ b ∧ b ≤ r + 4) M31 M33 := by rw [e33]; exact FI.ui ⟨by omega, by omega⟩
    have x36 : FI (fun b => r ≤ b ∧ b ≤ r + 4) M33 M36 := by rw [e36]; exact FI.ui ⟨by omega, by omega⟩
    exact (((((x16.trans x20).trans x24).trans x28).trans x31).trans x33).trans x36
  refine ⟨h36, fi, fun i => ?_, fun i => ?_, fun i => ?_, fun i => ?_, fun i => ?_⟩
  · rw [g36]
    by_cases y2 : i = 2
    · rw [if_pos y2, if_pos y2]
    · rw [if_neg y2, if_neg y2, g33]
      by_cases y7 : i = 7
      · rw [if_pos y7, if_pos y7]
      · rw [if_neg y7, if_neg y7, g31, r28]
  · rw [u36 _ (by omega), u33 _ (by omega), u31 _ (by omega), u28 _ (by omega), u24 _ (by omega), u20 _ (by omega), g16]
  · rw [u36 _ (by omega), u33 _ (by omega), u31 _ (by omega), u28 _ (by omega), u24 _ (by omega), g20, u16 _ (by omega)]
  · rw [u36 _ (by omega), u33 _ (by omega), u31 _ (by omega), u28 _ (by omega), g24, u20 _ (by omega), u16 _ (by omega)]
  · rw [u36 _ (by omega), u33 _ (by omega), u31 _ (by omega), g28, u24 _ (by omega), u20 _ (by omega), u16 _ (by omega)]
/-- the orders lie apart from the reader -/
theorem off0 {x r : Nat} (h : x < r ∨ r + 9 < x) : x ≠ r := by omega
theorem off9 {x r i : Nat} (h : x < r ∨ r + 9 < x) (hi : i ≤ 9) : x ≠ r + i := by omega
theorem off4 {x r : Nat} (h : x < r ∨ r + 9 < x) : x < r ∨ r + 4 < x := by omega
theorem fof0 {x r : Nat} (h : x < r ∨ r + 9 < x) : r ≠ x := by omega
theorem fof9 {x r i : Nat} (h : x < r ∨ r + 9 < x) (hi : i ≤ 9) : r + i ≠ x := by omega
theorem off3 {b r p O P : Nat} (h1 : p < r ∨ r + 9 < p) (h2 : O < r ∨ r + 9 < O) (h3 : P < r ∨ r + 9 < P) (y1 : r ≤ b) (y2 : b ≤ r + 9) (q : b = p ∨ b = O ∨ b = P) : False := by
  rcases q with q | q | q <;> omega
theorem nin5 {b r : Nat} (y1 : b ≠ r) (y2 : b ≠ r + 5) (q : b = r ∨ b = r + 5) : False := q.elim y1 y2
theorem rin5 {b r : Nat} (q : b = r ∨ b = r + 5) : r ≤ b ∧ b ≤ r + 9 := by omega
theorem RB.off (h : RB M z r w T A B D N C n p O P K) : (O < r ∨ r + 9 < O) ∧ (P < r ∨ r + 9 < P) ∧ (p < r ∨ r + 9 < p) ∧ O ≠ p ∧ P ≠ p ∧ O ≠ P := by
  obtain ⟨-, -, -, -, ⟨-, -, -, ⟨a1, a2, a3, a4⟩, -⟩, ⟨s1, s2, -⟩, -⟩ := h
  refine ⟨?_, ?_, ?_, ?_, ?_, a3⟩ <;> omega
/-- an open operation keeps what it keeps -/
theorem enO.cg {L' i : Nat} (h : enO M r O s L H i) (h1 : ∀ j, j ≤ i → mI M' (r + 1) j = mI M (r + 1) j) (h2 : mI M' (r + 2) i = mI M (r + 2) i) (h3 : mI M' (r + 3) i = mI M (r + 3) i) (h4 : ∀ j, j ≤ i → mI M' (r + 4) j = mI M (r + 4) j) (hL : L ≤ L') (hO : ∀ j, j < L → mI M' O j = mI M O j) (hH : ∀ j, j ≤ L → H' j = H j) : enO M' r O s L' H' i := by
  obtain ⟨a1, a2, a3, a4, a5, a6, a7⟩ := h
  have b := (sums_cg (M := M) (M' := M') (r := r) (k := i) (fun j hj => h1 j (by omega)) (fun j hj => h4 j (by omega)) i (Nat.le_refl _)).1
  unfold enO
  rw [h1 i (Nat.le_refl _), h2, h3, h4 i (Nat.le_refl _), b]
  refine ⟨a1, a2, a3, a4, fun q => ?_, a6, fun q j hj => by rw [h1 j (by omega)]; exact a7 (by rw [h1 i (Nat.le_refl _)] at q; exact q) j hj⟩
  obtain ⟨t, t1, t2, t3, t4, t5, t6⟩ := a5 q
  exact ⟨t, t1, t2, by omega, by rw [hO t t3]; exact t4, by rw [hH t (by omega)]; exact t5, fun y => by rw [hH (t + 1) (by omega)]; exact t6 y⟩
theorem pdg_cg {k' pc : Nat} (h : pdg M r k pc) (hk : k ≤ k') (h1 : ∀ j, j < k → mI M' (r + 1) j = mI M (r + 1) j) (h3 : ∀ j, j < k → mI M' (r + 3) j = mI M (r + 3) j) : pdg M' r k' pc := by
  obtain ⟨i, i1, i2, i3⟩ := h
  exact ⟨i, by omega, by rw [h3 i i1]; exact i2, by rw [h1 i i1]; exact i3⟩
end RRP
end
section
/-! The class's reader of rules: a level begins, a sign is read. -/
section RRL
variable {G : mG} {d z r w T A B D N C n p O P K k a s L V F d0 : Nat} {M M' M1 M2 : mM} {H H' : Nat → Nat} {ns : Nat → Int} {wt : Int}
theorem sum_top (M : mM) (r k : Nat) : bs M r (k + 1) = bs M r k + cm (mI M (r + 1) k) (mI M (r + 4) k) ∧ skk M r (k + 1) = skk M r k + ckk (mI M (r + 1) k) ∧ se M r (k + 1) = se M r k + cee (mI M (r + 1) k) ∧ sdp M r (k + 1) = sdp M r k + cdp (mI M (r + 1) k) := ⟨rfl, rfl, rfl, rfl⟩
theorem cee_b (o : Int) : cee o ≤ 1 := by unfold cee; split <;> omega
/-- an operation without an order of its own is open now -/
theorem RG.psh {o pl : Int} {dd : Nat} (g : RG M r p O P n s V F ns d0 H L k a wt) (hr : ∀ i, mI M' r i = if i = 2 then (a : Int) + 1 else if i = 7 then 1 else if i = 12 then (k : Int) + 1 else if i = 5 then (dd : Int) else mI M r i) (t1 : ∀ i, mI M' (r + 1) i = if i = k then o else mI M (r + 1) i) (t2 : ∀ i, mI M' (r + 2) i = if i = k then pl else mI M (r + 2) i) (t3 : ∀ i, mI M' (r + 3) i = if i = k then -1 else mI M (r + 3) i) (t4 : ∀ i, mI M' (r + 4) i = if i = k then 0 else mI M (r + 4) i) (t5 : mI M' (r + 5) = mI M (r + 5)) (tp : mI M' p = mI M p) (tO : mI M' O = mI M O) (tP : mI M' P = mI M P) (ho : opn o) (hj : ¬ jm o) (hpl : 0 ≤ pl ∧ pl ≤ 16384) (hd : dd = d0 + sdp M r k + cdp o) (hd4 : dd ≤ 40) (hrk : k + 1 ≤ 6 * (sdp M r k + cdp o) + rkk o) (hu : uw wt = ckk o) (hb : uw wt = cm o 0) (han : a < n) : RG M' r p O P n s V F ns d0 H L (k + 1) (a + 1) 1 := by
  obtain ⟨⟨g1, g2, g3, g4⟩, gw, ⟨ga, gs⟩, gc, ⟨gd, gd4⟩, gr, ge, ⟨gH, gHs⟩, gC, gL, gt⟩ := g
  have l1 : ∀ j, j < k → mI M' (r + 1) j = mI M (r + 1) j := fun j hj => by rw [t1, if_neg (by omega)]
  have l2 : ∀ j, j < k → mI M' (r + 2) j = mI M (r + 2) j := fun j hj => by rw [t2, if_neg (by omega)]
  have l3 : ∀ j, j < k → mI M' (r + 3) j = mI M (r + 3) j := fun j hj => by rw [t3, if_neg (by omega)]
  have l4 : ∀ j, j < k → mI M' (r + 4) j = mI M (r + 4) j := fun j hj => by rw [t4, if_neg (by omega)]
  have sm := fun i hi => sums_cg (M := M) (M' := M') (r := r) (k := k) l1 l4 i hi
  obtain ⟨b1, b2, b3, b4⟩ := sum_top M' r k
  rw [t1, if_pos rfl, (sm k (Nat.le_refl _)).2.1] at b2
  rw [t1, if_pos rfl, (sm k (Nat.le_refl _)).2.2.1] at b3
  rw [t1, if_pos rfl, (sm k (Nat.le_refl _)).2.2.2] at b4
  rw [t1, if_pos rfl, t4, if_pos rfl, (sm k (Nat.le_refl _)).1] at b1
  have u1 : uw 1 = 0 := rfl
  have ce := cee_b o
  refine ⟨⟨by rw [hr, if_pos rfl]; omega, by rw [hr, if_neg (by decide), if_neg (by decide), if_pos rfl]; omega, by rw [hr, if_neg (by decide), if_pos rfl], by rw [tp]; exact g4⟩, Or.inr rfl, ⟨by omega, gs⟩, by rw [hr, if_neg (by decide), if_neg (by decide), if_neg (by decide), if_neg (by decide), gc, b2]; omega, ⟨by rw [hr, if_neg (by decide), if_neg (by decide), if_neg (by decide), if_pos rfl, b4]; omega, by omega⟩, fun i hi => ?_, fun i hi => ?_, ⟨by omega, gHs⟩, ?_, by omega, fun j => by rw [t5]; exact gt j⟩
  · by_cases y : i = k
    · subst y
      rw [b4, t1, if_pos rfl]
      exact hrk
    · rw [(sm (i + 1) (by omega)).2.2.2, l1 i (by omega)]
      exact gr i (by omega)
  · by_cases y : i = k
    · subst y
      unfold enO
      rw [t1, if_pos rfl, t2, if_pos rfl, t3, if_pos rfl, t4, if_pos rfl]
      exact ⟨ho, hpl, by omega, fun _ => by omega, fun q => absurd q hj, fun _ => rfl, fun q => absurd (show jm o by rw [t1, if_pos rfl] at q; unfold jm; omega) hj⟩
    · exact (ge i (by omega)).cg (fun j hj => l1 j (by omega)) (l2 i (by omega)) (l3 i (by omega)) (fun j hj => l4 j (by omega)) (Nat.le_refl _) (fun j _ => by rw [tO]) (fun _ _ => rfl)
  · intro pc h0 h1
    obtain ⟨a1, a2, a3⟩ := gC pc h0 h1
    rw [tO, tP]
    refine ⟨a1, fun q => ?_, a3⟩
    rcases a2 q with v | v
    · exact Or.inl (pdg_cg v (by omega) l1 l3)
    · exact Or.inr v
/-- there is room for a level, or a sign -/
theorem RG.lvl (g : RG M r p O P n s V F ns d0 H L k a wt) {o : Int} (h : cdp o = 1 ∨ (cdp o = 0 ∧ 1 ≤ rkk o ∧ (0 < k → rkk (mI M (r + 1) (k - 1)) < rkk o))) : k + 1 ≤ 6 * (sdp M r k + cdp o) + rkk o := by
  have gr := g.2.2.2.2.2.1
  by_cases y : k = 0
  · omega
  · have a1 := gr (k - 1) (by omega)
    have a2 := rkk_b (mI M (r + 1) (k - 1))
    rw [show k - 1 + 1 = k by omega] at a1
    omega
/-- what a step that opens something, and nothing else, comes to -/
def lvQ (M : mM) (z r w T A B D N C n p O P K s V F : Nat) (ns : Nat → Int) (d0 : Nat) (H : Nat → Nat) (L k a : Nat) (x : Int) (M' : mM) : Prop := RB M' z r w T A B D N C n p O P K ∧ FI (rdS r p O P) M M' ∧ (∀ i, i ≠ 2 → i ≠ 5 → i ≠ 7 → i ≠ 12 → mI M' r i = mI M r i) ∧ (∀ i, 5 ≤ i → i ≤ 9 → mI M' (r + i) = mI M (r + i)) ∧ (mI M' p = mI M p ∧ mI M' O = mI M O ∧ mI M' P = mI M P) ∧ ((x = 2 ∧ M' = M) ∨ (x = 0 ∧ RG M' r p O P n s V F ns d0 H L (k + 1) (a + 1) 1))
end RRL
end
section
/-! The class's reader of rules: an operation is grouped. -/
section RRG
variable {G : mG} {d z r w T A B D N C n p O P K k a s L V F d0 c : Nat} {M0 M M' M1 M2 M110 M126 M133 : mM} {H H' : Nat → Nat} {ns : Nat → Int} {wt : Int}
/-- kinds are taken and put, a fault may be noted -/
def gI (M0 : mM) (z r w T A B D N C n p O P K k c : Nat) (M : mM) : Prop := RB M z r w T A B D N C n p O P K ∧ FI (rdS r p O P) M0 M ∧ (∀ i, i ≠ 3 → i ≠ 4 → i ≠ 12 → i ≠ 14 → mI M r i = mI M0 r i) ∧ (mI M r 12 = k ∧ mI M r 14 = c) ∧ (mI M0 r 3 ≠ 0 → mI M r 3 = mI M0 r 3) ∧ (∀ b, b ≠ r → b ≠ r + 5 → mI M b = mI M0 b) ∧ (∀ j, mI M (r + 5) j = 0 ∨ mI M (r + 5) j = 1)
theorem gI.pop (h : gI M0 z r w T A B D N C n p O P K k (c + 1) M) (hc : c < 336) : Ci G y_RR_popKind d [vr r] M (fun v M' => (v = 0 ∨ v = 1) ∧ gI M0 z r w T A B D N C n p O P K k c M') := by
  obtain ⟨h1, h2, h3, ⟨h4, h5⟩, h6, h7, h8⟩ := h
  refine (s_RR_popKind h1 h5 hc).mono (fun v M1 q => ?_)
  obtain ⟨hv, b1, f1, g1⟩ := q
  have o1 : ∀ b, b ≠ r → mI M1 b = mI M b := fun b hb => f1.2.2.2.2.2.2 b hb
  refine ⟨hv, b1, h2.trans (f1.mono (fun b q => Or.inl ⟨by omega, by omega⟩)), fun i i3 i4 i12 i14 => by rw [g1, if_neg i14]; exact h3 i i3 i4 i12 i14, ⟨by rw [g1, if_neg (by decide)]; exact h4, by rw [g1, if_pos rfl]⟩, fun q => by rw [g1, if_neg (by decide)]; exact h6 q, fun b b1 b2 => by rw [o1 b b1]; exact h7 b b1 b2, fun j => by rw [o1 (r + 5) (by omega)]; exact h8 j⟩
theorem gI.note {x y : Int} (hx : i32 x) (hy : i32 y) (h : gI M0 z r w T A B D N C n p O P K k c M) : Cv G y_RR_note d [vr r, vi x, vi y] M (fun M' => gI M0 z r w T A B D N C n p O P K k c M') := by
  obtain ⟨h1, h2, h3, ⟨h4, h5⟩, h6, h7, h8⟩ := h
  refine (s_RR_note hx hy h1).mono (fun M1 q => ?_)
  obtain ⟨b1, f1, g1, -, g3⟩ := q
  have o1 : ∀ b, b ≠ r → mI M1 b = mI M b := fun b hb => f1.2.2.2.2.2.2 b hb
  refine ⟨b1, h2.trans (f1.mono (fun b q => Or.inl ⟨by omega, by omega⟩)), fun i i3 i4 i12 i14 => by rw [g1 i i3 i4]; exact h3 i i3 i4 i12 i14, ⟨by rw [g1 12 (by decide) (by decide)]; exact h4, by rw [g1 14 (by decide) (by decide)]; exact h5⟩, fun q => by rw [g3 (by rw [h6 q]; exact q)]; exact h6 q, fun b b1 b2 => by rw [o1 b b1]; exact h7 b b1 b2, fun j => by rw [o1 (r + 5) (by omega)]; exact h8 j⟩
/-- what is left when an operation has been grouped -/
def gQ (M0 : mM) (z r w T A B D N C n p O P K s V F : Nat) (ns : Nat → Int) (d0 : Nat) (H : Nat → Nat) (L k a : Nat) (M' : mM) : Prop := RB M' z r w T A B D N C n p O P K ∧ FI (rdS r p O P) M0 M' ∧ (∀ i, i ≠ 3 → i ≠ 4 → i ≠ 5 → i ≠ 12 → i ≠ 14 → mI M' r i = mI M0 r i) ∧ (mI M0 r 3 ≠ 0 → mI M' r 3 = mI M0 r 3) ∧ (∀ i, 6 ≤ i → i ≤ 9 → mI M' (r + i) = mI M0 (r + i)) ∧ (∀ i, i ≠ 2 → mI M' p i = mI M0 p i) ∧ (∀ i, i < s → mI M' O i = mI M0 O i ∧ mI M' P i = mI M0 P i) ∧ (∀ i, i < k → mI M' (r + 1) i = mI M0 (r + 1) i) ∧ ∃ H' L', RG M' r p O P n s V F ns d0 H' L' k a 0 ∧ L ≤ L' ∧ ∀ i, i ≤ L → H' i = H i
/-- operations that are grouped -/
def grpO (o : Int) : Prop := (19 ≤ o ∧ o ≤ 31) ∨ o = 40 ∨ o = 41 ∨ o = 42
/-- kinds, faults and depth are as they will be -/
def gJ (M0 : mM) (z r w T A B D N C n p O P K d0 k : Nat) (M : mM) : Prop := RB M z r w T A B D N C n p O P K ∧ FI (rdS r p O P) M0 M ∧ (∀ i, i ≠ 3 → i ≠ 4 → i ≠ 5 → i ≠ 12 → i ≠ 14 → mI M r i = mI M0 r i) ∧ (mI M r 12 = k ∧ mI M r 14 = ((uw 0 + skk M0 r k : Nat) : Int) ∧ mI M r 5 = ((d0 + sdp M0 r k : Nat) : Int)) ∧ (mI M0 r 3 ≠ 0 → mI M r 3 = mI M0 r 3) ∧ (∀ b, b ≠ r → b ≠ r + 5 → mI M b = mI M0 b) ∧ (∀ j, mI M (r + 5) j = 0 ∨ mI M (r + 5) j = 1)
theorem gr_ord {o : Int} (g : RG M0 r p O P n s V F ns d0 H L (k + 1) a 0) (hb0 : RB M0 z r w T A B D N C n p O P K) (hop : mI M0 (r + 1) k = o) (no3 : (19 ≤ o ∧ o ≤ 29) ∨ o = 40 ∨ o = 41) (hJ : gJ M0 z r w T A B D N C n p O P K d0 k M110) (o126 : mOk M126) (f126 : FI (prS p O P) M110 M126) (p126 : ∀ j, mI M126 p j = if j = 2 then (L : Int) + 1 else mI M110 p j) (q126 : ∀ j, mI M126 O j = if j = L then o else mI M110 O j) (u126 : ∀ j, mI M126 P j = if j = L then mI M0 (r + 2) k else mI M110 P j) : gQ M0 z r w T A B D N C n p O P K s V F ns d0 H L k a M126 := by
  obtain ⟨oO, oP, op, e1, e2, e3⟩ := hb0.off
  obtain ⟨⟨g1, g2, g3, g4⟩, gw, ⟨ga, gs⟩, gc, ⟨gd, gd4⟩, gr, ge, ⟨gH, gHs⟩, gC, gL, gt⟩ := id g
  obtain ⟨h110, F110, R, ⟨R12, R14, d110⟩, R3, X, T5⟩ := hJ
  obtain ⟨b1, b2, b3, b4⟩ := sum_top M0 r k
  have u0 : uw 0 = 1 := rfl
  rw [hop] at b1 b2 b3 b4
  have nj : ¬ jm o := by unfold jm; omega
  have f126' : FI (rdS r p O P) M110 M126 := f126.mono (fun b q => Or.inr q)
  have h126 := h110.fi o126 f126'
  have Y : ∀ b, r ≤ b → b ≤ r + 9 → mI M126 b = mI M110 b := fun b y1 y2 => f126.2.2.2.2.2.2 b (fun q => by
    have q' : b = p ∨ b = O ∨ b = P := q
    first | exact off3 op oO oP (by assumption) (by assumption) q' | omega)
  have YT : ∀ i, 1 ≤ i → i ≤ 9 → i ≠ 5 → mI M126 (r + i) = mI M0 (r + i) := fun i i1 i9 i5 => by rw [Y (r + i) (by omega) (by omega), X (r + i) (by omega) (by omega)]
  obtain ⟨H', hH'⟩ : ∃ H' : Nat → Nat, ∀ i, H' i = if i = L + 1 then 1 + bs M0 r k else H i := ⟨fun i => if i = L + 1 then 1 + bs M0 r k else H i, fun _ => rfl⟩
  have hHs : ∀ i, i ≤ L → H' i = H i := fun i hi => by rw [hH', if_neg (by omega)]
  have hHL : H' (L + 1) = 1 + bs M0 r k := by rw [hH', if_pos rfl]
  have sm := fun i hi => sums_cg (M := M0) (M' := M126) (r := r) (k := k) (fun j _ => by rw [YT 1 (by omega) (by omega) (by omega)]) (fun j _ => by rw [YT 4 (by omega) (by omega) (by omega)]) i hi
  have QO : ∀ i, mI M126 O i = if i = L then o else mI M0 O i := fun i => by rw [q126, X O (by first | exact oO | exact off0 oO | exact off9 oO (by decide) | exact off4 oO | exact e1 | exact e3 | omega) (by first | exact oO | exact off0 oO | exact off9 oO (by decide) | exact off4 oO | exact e1 | exact e3 | omega)]
  have QP : ∀ i, mI M126 P i = if i = L then mI M0 (r + 2) k else mI M0 P i := fun i => by rw [u126, X P (by first | exact oP | exact off0 oP | exact off9 oP (by decide) | exact off4 oP | exact e2 | exact fun q => e3 q.symm | omega) (by first | exact oP | exact off0 oP | exact off9 oP (by decide) | exact off4 oP | exact e2 | exact fun q => e3 q.symm | omega)]
  have cmv : bs M0 r (k + 1) = bs M0 r k + (if 19 ≤ o ∧ o ≤ 29 then 1 else 0) := by
    rw [b1]
    unfold cm
    by_cases v : 19 ≤ o ∧ o ≤ 29
    · rw [if_pos v, if_pos v]
    · rw [if_neg v, if_neg v, if_neg (by omega)]
  have ce1 : cee o = 1 := by unfold cee; rw [if_pos no3]
  refine ⟨h126, F110.trans f126', fun i i3 i4 i5 i12 i14 => by rw [Y r (by omega) (by omega)]; exact R i i3 i4 i5 i12 i14, fun q => by rw [Y r (by omega) (by omega)]; exact R3 q, fun i i6 i9 => YT i (by omega) i9 (by omega), fun i i2 => by rw [p126, if_neg i2, X p (by first | exact op | exact off0 op | exact off9 op (by decide) | exact off4 op | exact fun q => e1 q.symm | exact fun q => e2 q.symm | omega) (by first | exact op | exact off0 op | exact off9 op (by decide) | exact off4 op | exact fun q => e1 q.symm | exact fun q => e2 q.symm | omega)], fun i hi => ⟨by rw [QO, if_neg (by omega)], by rw [QP, if_neg (by omega)]⟩, fun i _ => by rw [YT 1 (by omega) (by omega) (by omega)], H', L + 1, ⟨⟨by rw [Y r (by omega) (by omega), R 2 (by decide) (by decide) (by decide) (by decide) (by decide)]; exact g1, by rw [Y r (by omega) (by omega)]; exact R12, by rw [Y r (by omega) (by omega), R 7 (by decide) (by decide) (by decide) (by decide) (by decide)]; exact g3, by rw [p126, if_pos rfl]; omega⟩, Or.inl rfl, ⟨ga, by omega⟩, by rw [Y r (by omega) (by omega), R14, (sm k (Nat.le_refl _)).2.1], ⟨by rw [Y r (by omega) (by omega), d110, (sm k (Nat.le_refl _)).2.2.2], by rw [(sm k (Nat.le_refl _)).2.2.2]; omega⟩, fun i hi => by rw [(sm (i + 1) (by omega)).2.2.2, YT 1 (by omega) (by omega) (by omega)]; exact gr i (by omega), fun i hi => ?_, ⟨?_, ?_⟩, ?_, by rw [(sm k (Nat.le_refl _)).2.2.1]; omega, fun j => by rw [Y (r + 5) (by omega) (by omega)]; exact T5 j⟩, by omega, hHs⟩
  · exact (ge i (by omega)).cg (fun j _ => by rw [YT 1 (by omega) (by omega) (by omega)]) (by rw [YT 2 (by omega) (by omega) (by omega)]) (by rw [YT 3 (by omega) (by omega) (by omega)]) (fun j _ => by rw [YT 4 (by omega) (by omega) (by omega)]) (by omega) (fun j hj => by rw [QO, if_neg (by omega)]) hHs
  · rw [hHL, (sm k (Nat.le_refl _)).1]; omega
  · rw [hHL]
    split at cmv <;> omega
  · refine gC.add gs hHs gHs QO QP (fun i _ q => ?_) ?_ (fun q => absurd q nj)
    · obtain ⟨j, j1, j2, j3⟩ := q
      have jk : j ≠ k := fun z => by rw [z, hop] at j3; exact nj j3
      exact ⟨j, by omega, by rw [YT 3 (by omega) (by omega) (by omega)]; exact j2, by rw [YT 1 (by omega) (by omega) (by omega)]; exact j3⟩
    · have e0 := hHs L (Nat.le_refl _)
      by_cases v : 19 ≤ o ∧ o ≤ 29
      · rw [if_pos v] at cmv
        exact Or.inr (Or.inr (Or.inr (Or.inr (Or.inr (Or.inr (Or.inl ⟨Or.inr (Or.inr v), by omega, by omega⟩))))))
      · rw [if_neg v] at cmv
        exact Or.inr (Or.inr (Or.inr (Or.inr (Or.inr (Or.inl ⟨by omega, by omega, by omega⟩)))))
theorem gr_jmp {o : Int} {t : Nat} (g : RG M0 r p O P n s V F ns d0 H L (k + 1) a 0) (hb0 : RB M0 z r w T A B D N C n p O P K) (hop : mI M0 (r + 1) k = o) (yj : jm o) (no33 : o ≠ 33) (hJ : gJ M0 z r w T A B D N C n p O P K d0 k M110) (t1 : mI M0 (r + 3) k = t) (t2 : s ≤ t) (t3 : t < L) (t4 : mI M0 O t = o) (t5 : H t = bs M0 r k + 1) (o133 : mOk M133) (e133 : M133 = mUI M110 P t L) : gQ M0 z r w T A B D N C n p O P K s V F ns d0 H L k a M133 := by
  obtain ⟨oO, oP, op, e1, e2, e3⟩ := hb0.off
  obtain ⟨⟨g1, g2, g3, g4⟩, gw, ⟨ga, gs⟩, gc, ⟨gd, gd4⟩, gr, ge, ⟨gH, gHs⟩, gC, gL, gt⟩ := id g
  obtain ⟨h110, F110, R, ⟨R12, R14, d110⟩, R3, X, T5⟩ := hJ
  obtain ⟨b1, b2, b3, b4⟩ := sum_top M0 r k
  have u0 : uw 0 = 1 := rfl
  rw [hop] at b1 b2 b3 b4
  have f133 : FI (rdS r p O P) M110 M133 := by rw [e133]; exact FI.ui (Or.inr (Or.inr (Or.inr rfl)))
  have h133 := h110.fi o133 f133
  have Y : ∀ b, b ≠ P → mI M133 b = mI M110 b := fun b y1 => by rw [e133]; funext i; rw [mI_UI, if_neg (fun q => y1 q.1)]
  have YT : ∀ i, 1 ≤ i → i ≤ 9 → i ≠ 5 → mI M133 (r + i) = mI M0 (r + i) := fun i i1 i9 i5 => by rw [Y (r + i) (by omega), X (r + i) (by omega) (by omega)]
  have sm := fun i hi => sums_cg (M := M0) (M' := M133) (r := r) (k := k) (fun j _ => by rw [YT 1 (by omega) (by omega) (by omega)]) (fun j _ => by rw [YT 4 (by omega) (by omega) (by omega)]) i hi
  have QP : ∀ i, mI M133 P i = if i = t then (L : Int) else mI M0 P i := fun i => by
    rw [e133, mI_UI]
    by_cases v : i = t
    · rw [if_pos ⟨rfl, v⟩, if_pos v]
    · rw [if_neg (fun q => v q.2), if_neg v, X P (by first | exact oP | exact off0 oP | exact off9 oP (by decide) | exact off4 oP | exact e2 | exact fun q => e3 q.symm | omega) (by first | exact oP | exact off0 oP | exact off9 oP (by decide) | exact off4 oP | exact e2 | exact fun q => e3 q.symm | omega)]
  have QO : ∀ i, mI M133 O i = mI M0 O i := fun i => by rw [Y O (by first | exact oO | exact off0 oO | exact off9 oO (by decide) | exact off4 oO | exact e1 | exact e3 | omega), X O (by first | exact oO | exact off0 oO | exact off9 oO (by decide) | exact off4 oO | exact e1 | exact e3 | omega) (by first | exact oO | exact off0 oO | exact off9 oO (by decide) | exact off4 oO | exact e1 | exact e3 | omega)]
  have cm0 : cm o (mI M0 (r + 4) k) = 0 := by
    unfold jm at yj
    unfold cm
    rw [if_neg (by omega), if_neg (by omega)]
  have ce0 : se M0 r k ≤ se M0 r (k + 1) := by omega
  refine ⟨h133, F110.trans f133, fun i i3 i4 i5 i12 i14 => by rw [Y r (by omega)]; exact R i i3 i4 i5 i12 i14, fun q => by rw [Y r (by omega)]; exact R3 q, fun i i6 i9 => YT i (by omega) i9 (by omega), fun i i2 => by rw [Y p (by first | exact op | exact off0 op | exact off9 op (by decide) | exact off4 op | exact fun q => e1 q.symm | exact fun q => e2 q.symm | omega), X p (by first | exact op | exact off0 op | exact off9 op (by decide) | exact off4 op | exact fun q => e1 q.symm | exact fun q => e2 q.symm | omega) (by first | exact op | exact off0 op | exact off9 op (by decide) | exact off4 op | exact fun q => e1 q.symm | exact fun q => e2 q.symm | omega)], fun i hi => ⟨QO i, by rw [QP, if_neg (by omega)]⟩, fun i _ => by rw [YT 1 (by omega) (by omega) (by omega)], H, L, ⟨⟨by rw [Y r (by omega), R 2 (by decide) (by decide) (by decide) (by decide) (by decide)]; exact g1, by rw [Y r (by omega)]; exact R12, by rw [Y r (by omega), R 7 (by decide) (by decide) (by decide) (by decide) (by decide)]; exact g3, by rw [Y p (by first | exact op | exact off0 op | exact off9 op (by decide) | exact off4 op | exact fun q => e1 q.symm | exact fun q => e2 q.symm | omega), X p (by first | exact op | exact off0 op | exact off9 op (by decide) | exact off4 op | exact fun q => e1 q.symm | exact fun q => e2 q.symm | omega) (by first | exact op | exact off0 op | exact off9 op (by decide) | exact off4 op | exact fun q => e1 q.symm | exact fun q => e2 q.symm | omega)]; exact g4⟩, Or.inl rfl, ⟨ga, gs⟩, by rw [Y r (by omega), R14, (sm k (Nat.le_refl _)).2.1], ⟨by rw [Y r (by omega), d110, (sm k (Nat.le_refl _)).2.2.2], by rw [(sm k (Nat.le_refl _)).2.2.2]; omega⟩, fun i hi => by rw [(sm (i + 1) (by omega)).2.2.2, YT 1 (by omega) (by omega) (by omega)]; exact gr i (by omega), fun i hi => ?_, ⟨by rw [(sm k (Nat.le_refl _)).1, gH, b1, cm0]; rfl, gHs⟩, ?_, by rw [(sm k (Nat.le_refl _)).2.2.1]; omega, fun j => by rw [Y (r + 5) (by omega)]; exact T5 j⟩, Nat.le_refl _, fun _ _ => rfl⟩
  · exact (ge i (by omega)).cg (fun j _ => by rw [YT 1 (by omega) (by omega) (by omega)]) (by rw [YT 2 (by omega) (by omega) (by omega)]) (by rw [YT 3 (by omega) (by omega) (by omega)]) (fun j _ => by rw [YT 4 (by omega) (by omega) (by omega)]) (Nat.le_refl _) (fun j _ => QO j) (fun _ _ => rfl)
  · refine gC.put (t := t) (x := (L : Int)) (by rw [t4]; exact yj) QO QP (fun i _ it q => ?_) ⟨L, rfl, t3, Nat.le_refl _, fun q => absurd q (by rw [t4]; exact no33), fun _ => by rw [gH, b1, cm0, t5]; omega⟩
    obtain ⟨j, j1, j2, j3⟩ := q
    have jk : j ≠ k := fun z => by rw [z, t1] at j2; omega
    exact ⟨j, by omega, by rw [YT 3 (by omega) (by omega) (by omega)]; exact j2, by rw [YT 1 (by omega) (by omega) (by omega)]; exact j3⟩
end RRG
end
section
/-! The class's reader of rules: group, a sign. -/
section RRM
variable {G : mG} {d z r w T A B D N C n p O P K k a s L V F d0 c : Nat} {M0 M M' M1 M2 : mM} {H H' : Nat → Nat} {ns : Nat → Int} {wt : Int}
end RRM
end
section
/-! The class's reader of rules: signs between operands. -/
section RRS
variable {G : mG} {d z r w T A B D N C n p O P K k a s L V F d0 c : Nat} {M0 M M' M1 M2 : mM} {H H' : Nat → Nat} {ns : Nat → Int} {wt : Int}
theorem rk_lvl (o : Int) : ((lvl o = 0 ∨ lvl o = 3) ∧ rkk o = 0) ∨ (lvl o = 1 ∧ rkk o = 1) ∨ (lvl o = 2 ∧ rkk o = 2) ∨ (lvl o = 4 ∧ rkk o = 3) ∨ (lvl o = 5 ∧ rkk o = 4) ∨ (lvl o = 6 ∧ rkk o = 5) := by
  unfold lvl rkk
  (repeat' split) <;> omega
/-- an operation with an order of its own that may jump is open now -/
theorem RG.pshj {o pl mk : Int} {dd c' : Nat} (g : RG M r p O P n s V F ns d0 H L k a 0) (hr : ∀ i, mI M' r i = if i = 2 then (a : Int) + 1 else if i = 7 then 1 else if i = 12 then (k : Int) + 1 else if i = 5 then (dd : Int) else if i = 14 then (c' : Int) else mI M r i) (t1 : ∀ i, mI M' (r + 1) i = if i = k then o else mI M (r + 1) i) (t2 : ∀ i, mI M' (r + 2) i = if i = k then pl else mI M (r + 2) i) (t3 : ∀ i, mI M' (r + 3) i = if i = k then (L : Int) else mI M (r + 3) i) (t4 : ∀ i, mI M' (r + 4) i = if i = k then mk else mI M (r + 4) i) (t5 : ∀ j, mI M' (r + 5) j = 0 ∨ mI M' (r + 5) j = 1) (tp : mI M' p 2 = (L : Int) + 1) (tO : ∀ i, mI M' O i = if i = L then o else mI M O i) (tP : ∀ i, mI M' P i = if i = L then 0 else mI M P i) (ho : o = 30 ∨ o = 31 ∨ o = 33) (hpl : 0 ≤ pl ∧ pl ≤ 16384) (hmk : 0 ≤ mk ∧ mk ≤ 7) (hd : dd = d0 + sdp M r k + cdp o) (hd4 : dd ≤ 40) (hrk : k + 1 ≤ 6 * (sdp M r k + cdp o) + rkk o) (hc : c' = skk M r k + ckk o) (han : a < n) (hat : o = 33 → aO M' r k) : ∃ H', RG M' r p O P n s V F ns d0 H' (L + 1) (k + 1) (a + 1) 1 ∧ ∀ i, i ≤ L → H' i = H i := by
  obtain ⟨⟨g1, g2, g3, g4⟩, gw, ⟨ga, gs⟩, gc, ⟨gd, gd4⟩, gr, ge, ⟨gH, gHs⟩, gC, gL, gt⟩ := g
  have l1 : ∀ j, j < k → mI M' (r + 1) j = mI M (r + 1) j := fun j hj => by rw [t1, if_neg (by omega)]
  have l2 : ∀ j, j < k → mI M' (r + 2) j = mI M (r + 2) j := fun j hj => by rw [t2, if_neg (by omega)]
  have l3 : ∀ j, j < k → mI M' (r + 3) j = mI M (r + 3) j := fun j hj => by rw [t3, if_neg (by omega)]
  have l4 : ∀ j, j < k → mI M' (r + 4) j = mI M (r + 4) j := fun j hj => by rw [t4, if_neg (by omega)]
  have sm := fun i hi => sums_cg (M := M) (M' := M') (r := r) (k := k) l1 l4 i hi
  obtain ⟨b1, b2, b3, b4⟩ := sum_top M' r k
  rw [t1, if_pos rfl, (sm k (Nat.le_refl _)).2.1] at b2
  rw [t1, if_pos rfl, (sm k (Nat.le_refl _)).2.2.1] at b3
  rw [t1, if_pos rfl, (sm k (Nat.le_refl _)).2.2.2] at b4
  rw [t1, if_pos rfl, t4, if_pos rfl, (sm k (Nat.le_refl _)).1] at b1
  have u1 : uw 1 = 0 := rfl
  have u0 : uw 0 = 1 := rfl
  have c0 : cm o mk = 0 := by
    unfold cm
    rw [if_neg (by omega), if_neg (by omega)]
  have e0 : cee o = 0 := by
    unfold cee
    rw [if_neg (by omega)]
  have jo : jm o := by unfold jm; omega
  obtain ⟨H', hH'⟩ : ∃ H' : Nat → Nat, ∀ i, H' i = if i = L + 1 then bs M r k else H i := ⟨fun i => if i = L + 1 then bs M r k else H i, fun _ => rfl⟩
  have hHs : ∀ i, i ≤ L → H' i = H i := fun i hi => by rw [hH', if_neg (by omega)]
  have hHL : H' (L + 1) = bs M r k := by rw [hH', if_pos rfl]
  have hL0 := hHs L (Nat.le_refl _)
  refine ⟨H', ⟨⟨by rw [hr, if_pos rfl]; omega, by rw [hr, if_neg (by decide), if_neg (by decide), if_pos rfl]; omega, by rw [hr, if_neg (by decide), if_pos rfl], by rw [tp]; omega⟩, Or.inr rfl, ⟨by omega, by omega⟩, by rw [hr, if_neg (by decide), if_neg (by decide), if_neg (by decide), if_neg (by decide), if_pos rfl, b2]; omega, ⟨by rw [hr, if_neg (by decide), if_neg (by decide), if_neg (by decide), if_pos rfl, b4]; omega, by omega⟩, fun i hi => ?_, fun i hi => ?_, ⟨by omega, by omega⟩, ?_, by omega, t5⟩, hHs⟩
  · by_cases y : i = k
    · subst y
      rw [b4, t1, if_pos rfl]
      exact hrk
    · rw [(sm (i + 1) (by omega)).2.2.2, l1 i (by omega)]
      exact gr i (by omega)
  · by_cases y : i = k
    · subst y
      unfold enO
      rw [t1, if_pos rfl, t2, if_pos rfl, t3, if_pos rfl, t4, if_pos rfl, (sm i (Nat.le_refl _)).1]
      refine ⟨by unfold opn; omega, hpl, hmk, fun q => absurd q (by omega), fun _ => ⟨L, rfl, gs, by omega, by rw [tO, if_pos rfl], by omega, fun _ => hHL⟩, fun q => absurd jo q, fun q => hat (by rw [t1, if_pos rfl] at q; omega) q⟩
    · exact (ge i (by omega)).cg (fun j hj => l1 j (by omega)) (l2 i (by omega)) (l3 i (by omega)) (fun j hj => l4 j (by omega)) (by omega) (fun j hj => by rw [tO, if_neg (by omega)]) hHs
  · refine gC.add gs hHs gHs tO tP (fun i _ q => pdg_cg q (by omega) l1 l3) (Or.inr (Or.inr (Or.inr (Or.inl ⟨ho, by omega⟩)))) (fun _ => Or.inl ⟨k, by omega, by rw [t3, if_pos rfl], by rw [t1, if_pos rfl]; exact jo⟩)
/-- what a sign comes to -/
def sgQ (M : mM) (z r w T A B D N C n p O P K s V F : Nat) (ns : Nat → Int) (d0 : Nat) (H : Nat → Nat) (L k a : Nat) (x : Int) (M' : mM) : Prop := RB M' z r w T A B D N C n p O P K ∧ FI (rdS r p O P) M M' ∧ (∀ i, i ≠ 2 → i ≠ 5 → i ≠ 7 → i ≠ 12 → i ≠ 14 → mI M' r i = mI M r i) ∧ (∀ i, 6 ≤ i → i ≤ 9 → mI M' (r + i) = mI M (r + i)) ∧ (∀ i, i ≠ 2 → mI M' p i = mI M p i) ∧ (∀ i, i < L → mI M' O i = mI M O i ∧ mI M' P i = mI M P i) ∧ ((x = 2 ∧ M' = M) ∨ (x = 0 ∧ ∃ H' L', RG M' r p O P n s V F ns d0 H' L' (k + 1) (a + 1) 1 ∧ L ≤ L' ∧ ∀ i, i ≤ L → H' i = H i))
end RRS
end
section
/-! The class's reader of rules: '?'. -/
section RRA
variable {G : mG} {d z r w T A B D N C n p O P K k a s L V F d0 c : Nat} {M0 M M' M1 M2 : mM} {H H' : Nat → Nat} {ns : Nat → Int} {wt : Int}
end RRA
end
section
/-! The class's reader of rules: what closing leaves. -/
section RRC
variable {G : mG} {d z r w T A B D N C n p O P K k a s L L' V F d0 c : Nat} {M0 M M' M1 M2 : mM} {H H' : Nat → Nat} {ns : Nat → Int} {wt : Int}
/-- the operation that was open last is closed -/
theorem RG.popc (g : RG M r p O P n s V F ns d0 H L (k + 1) a 0) (hr : mI M' r 2 = (a : Int) + 1 ∧ mI M' r 12 = k ∧ mI M' r 7 = 0 ∧ mI M' r 14 = ((1 + skk M r k : Nat) : Int) ∧ mI M' r 5 = ((d0 + sdp M r k : Nat) : Int)) (l1 : ∀ j, j < k → mI M' (r + 1) j = mI M (r + 1) j) (l2 : ∀ j, j < k → mI M' (r + 2) j = mI M (r + 2) j) (l3 : ∀ j, j < k → mI M' (r + 3) j = mI M (r + 3) j) (l4 : ∀ j, j < k → mI M' (r + 4) j = mI M (r + 4) j) (t5 : ∀ j, mI M' (r + 5) j = 0 ∨ mI M' (r + 5) j = 1) (tp : mI M' p 2 = L') (hLL : L ≤ L') (hO : ∀ j, j < L → mI M' O j = mI M O j) (hHs : ∀ i, i ≤ L → H' i = H i) (hH : H' L' = 1 + bs M r k) (hb : H' L' + s ≤ L') (hC : CO M' O P V F ns H' s L' (pdg M' r k)) (hL : L' + se M r k ≤ a + 1) (han : a < n) : RG M' r p O P n s V F ns d0 H' L' k (a + 1) 0 := by
  obtain ⟨-, -, ⟨ga, gs⟩, -, ⟨-, gd4⟩, gr, ge, -, -, -, -⟩ := g
  have sm := fun i hi => sums_cg (M := M) (M' := M') (r := r) (k := k) l1 l4 i hi
  obtain ⟨-, -, -, b4⟩ := sum_top M r k
  obtain ⟨h1, h2, h3, h4, h5⟩ := hr
  have u0 : uw 0 = 1 := rfl
  refine ⟨⟨by omega, h2, h3, tp⟩, Or.inl rfl, ⟨by omega, by omega⟩, by rw [h4, (sm k (Nat.le_refl _)).2.1, u0], ⟨by rw [h5, (sm k (Nat.le_refl _)).2.2.2], by rw [(sm k (Nat.le_refl _)).2.2.2]; omega⟩, fun i hi => by rw [(sm (i + 1) (by omega)).2.2.2, l1 i hi]; exact gr i (by omega), fun i hi => (ge i (by omega)).cg (fun j _ => l1 j (by omega)) (l2 i hi) (l3 i hi) (fun j _ => l4 j (by omega)) hLL hO hHs, ⟨by rw [hH, (sm k (Nat.le_refl _)).1, u0], hb⟩, hC, by rw [(sm k (Nat.le_refl _)).2.2.1]; omega, t5⟩
/-- the operation that was open last goes on: o' and marks m' stand there now -/
theorem RG.goes {o' m' : Int} (g : RG M r p O P n s V F ns d0 H L (k + 1) a 0) (hr : mI M' r 2 = (a : Int) + 1 ∧ mI M' r 12 = (k : Int) + 1 ∧ mI M' r 7 = 1 ∧ mI M' r 14 = ((skk M r k : Nat) : Int) ∧ mI M' r 5 = ((d0 + sdp M r (k + 1) : Nat) : Int)) (l1 : ∀ j, mI M' (r + 1) j = if j = k then o' else mI M (r + 1) j) (l2 : ∀ j, mI M' (r + 2) j = mI M (r + 2) j) (l3 : ∀ j, j < k → mI M' (r + 3) j = mI M (r + 3) j) (l4 : ∀ j, mI M' (r + 4) j = if j = k then m' else mI M (r + 4) j) (t5 : ∀ j, mI M' (r + 5) j = 0 ∨ mI M' (r + 5) j = 1) (tp : mI M' p 2 = L') (hLL : L ≤ L') (hO : ∀ j, j < L → mI M' O j = mI M O j) (hHs : ∀ i, i ≤ L → H' i = H i) (hH : H' L' = bs M r k + cm o' m') (hb : H' L' + s ≤ L') (hC : CO M' O P V F ns H' s L' (pdg M' r (k + 1))) (hL : L' + se M r k ≤ a + 1) (han : a < n) (hk : ckk o' = 0 ∧ cee o' = 0 ∧ cdp o' = cdp (mI M (r + 1) k) ∧ rkk o' = rkk (mI M (r + 1) k)) (hen : enO M' r O s L' H' k) : RG M' r p O P n s V F ns d0 H' L' (k + 1) (a + 1) 1 := by
  obtain ⟨-, -, ⟨ga, gs⟩, -, ⟨-, gd4⟩, gr, ge, -, -, -, -⟩ := g
  have e1 : ∀ j, j < k → mI M' (r + 1) j = mI M (r + 1) j := fun j hj => by rw [l1, if_neg (by omega)]
  have e4 : ∀ j, j < k → mI M' (r + 4) j = mI M (r + 4) j := fun j hj => by rw [l4, if_neg (by omega)]
  have sm := fun i hi => sums_cg (M := M) (M' := M') (r := r) (k := k) e1 e4 i hi
  obtain ⟨-, -, -, b4⟩ := sum_top M r k
  obtain ⟨c1, c2, c3, c4⟩ := sum_top M' r k
  rw [l1, if_pos rfl, (sm k (Nat.le_refl _)).2.1, hk.1] at c2
  rw [l1, if_pos rfl, (sm k (Nat.le_refl _)).2.2.1, hk.2.1] at c3
  rw [l1, if_pos rfl, (sm k (Nat.le_refl _)).2.2.2, hk.2.2.1, ← b4] at c4
  rw [l1, if_pos rfl, l4, if_pos rfl, (sm k (Nat.le_refl _)).1] at c1
  obtain ⟨h1, h2, h3, h4, h5⟩ := hr
  have u1 : uw 1 = 0 := rfl
  refine ⟨⟨by omega, by omega, h3, tp⟩, Or.inr rfl, ⟨by omega, by omega⟩, by rw [h4, c2]; omega, ⟨by rw [h5, c4], by rw [c4]; exact gd4⟩, fun i hi => ?_, fun i hi => ?_, ⟨by rw [hH, c1]; omega, hb⟩, hC, by rw [c3]; omega, t5⟩
  · by_cases y : i = k
    · subst y
      rw [c4, l1, if_pos rfl, hk.2.2.2]
      exact gr i (by omega)
    · rw [(sm (i + 1) (by omega)).2.2.2, e1 i (by omega)]
      exact gr i (by omega)
  · by_cases y : i = k
    · subst y
      exact hen
    · exact (ge i (by omega)).cg (fun j hj => e1 j (by omega)) (l2 i) (l3 i (by omega)) (fun j hj => e4 j (by omega)) hLL hO hHs
/-- marks of a list: bit 2 -/
theorem mk_or {m v : Int} (hm : 0 ≤ m ∧ m ≤ 3) (hv : v = 0 ∨ v = 1) : orI m (orI 2 v) = 2 ∨ orI m (orI 2 v) = 3 := by
  have : m = 0 ∨ m = 1 ∨ m = 2 ∨ m = 3 := by omega
  rcases this with e | e | e | e <;> rcases hv with f | f <;> subst e <;> subst f <;> decide
theorem mk_and2 {m : Int} (hm : 0 ≤ m ∧ m ≤ 3) : (andI m 2 = 0 ∧ ¬ (m = 2 ∨ m = 3)) ∨ (andI m 2 ≠ 0 ∧ (m = 2 ∨ m = 3)) := by
  have : m = 0 ∨ m = 1 ∨ m = 2 ∨ m = 3 := by omega
  rcases this with e | e | e | e <;> subst e <;> decide
theorem mk_or4 {m v : Int} (hm : 0 ≤ m ∧ m ≤ 7) (hv : v = 0 ∨ v = 4) : 0 ≤ orI m v ∧ orI m v ≤ 7 := by
  have : m = 0 ∨ m = 1 ∨ m = 2 ∨ m = 3 ∨ m = 4 ∨ m = 5 ∨ m = 6 ∨ m = 7 := by omega
  rcases this with e | e | e | e | e | e | e | e <;> rcases hv with f | f <;> subst e <;> subst f <;> decide
end RRC
end
end
section
theorem tLk1 (g : Nat) : tL g (g + 1) := Or.inl rfl
theorem tLk3 (g : Nat) : tL g (g + 3) := Or.inr (Or.inl rfl)
theorem tLk5 (g : Nat) : tL g (g + 5) := Or.inr (Or.inr (Or.inl rfl))
theorem tLk7 (g : Nat) : tL g (g + 7) := Or.inr (Or.inr (Or.inr (Or.inl rfl)))
theorem tLk9 (g : Nat) : tL g (g + 9) := Or.inr (Or.inr (Or.inr (Or.inr (Or.inl rfl))))
theorem tLk11 (g : Nat) : tL g (g + 11) := Or.inr (Or.inr (Or.inr (Or.inr (Or.inr rfl))))
theorem l33z {a g i : Nat} (hg : g = a + 13 ∨ g = a + 49) (hi : i = 85 ∨ i = 87 ∨ i = 89) (z : ((a + i = g + 1 ∨ a + i = g + 3 ∨ a + i = g + 5 ∨ a + i = g + 7 ∨ a + i = g + 9 ∨ a + i = g + 11) ∨ a + i = a + 91) ∨ (a + i = a + 93 ∨ a + i = a + 95 ∨ a + i = g + 7)) : False := by
  have h1 : g ≤ a + 49 := by omega
  have h2 : 85 ≤ i ∧ i ≤ 89 := by omega
  clear hg hi
  rcases z with (z | z) | z
  · rcases z with z | z | z | z | z | z <;> omega
  · omega
  · rcases z with z | z | z <;> omega
section
/-! The class's reader of rules: closing, its end and ')'. -/
section RRE
variable {G : mG} {d z r w T A B D N C n p O P K k a s L L' V F d0 c : Nat} {M0 M M' M1 M2 : mM} {H H' : Nat → Nat} {ns : Nat → Int} {wt : Int}
/-- what closing comes to -/
def cliQ (M : mM) (z r w T A B D N C n p O P K s V F : Nat) (ns : Nat → Int) (d0 L a : Nat) (x : Int) (M' : mM) : Prop := RB M' z r w T A B D N C n p O P K ∧ FI (rdS r p O P) M M' ∧ (∀ i, i ≠ 2 → i ≠ 3 → i ≠ 4 → i ≠ 5 → i ≠ 7 → i ≠ 12 → i ≠ 14 → mI M' r i = mI M r i) ∧ (mI M r 3 ≠ 0 → mI M' r 3 = mI M r 3) ∧ (∀ i, 6 ≤ i → i ≤ 9 → mI M' (r + i) = mI M (r + i)) ∧ (∀ i, i ≠ 2 → mI M' p i = mI M p i) ∧ (∀ i, i < s → mI M' O i = mI M O i ∧ mI M' P i = mI M P i) ∧ ((x = 2 ∧ M' = M) ∨ (x = 0 ∧ ∃ H' L' k' wt', RG M' r p O P n s V F ns d0 H' L' k' (a + 1) wt' ∧ L ≤ L'))
/-- the end of closing: a word is passed -/
theorem s_ci286 {l5 : Int} {Q : Int → mM → Prop} (h5 : l5 = 0 ∨ l5 = 1) (h : RB M z r w T A B D N C n p O P K) (ha : mI M r 2 = a) (han : a ≤ 16384) (hq : ∀ M', RB M' z r w T A B D N C n p O P K → FI (rdS r p O P) M M' → (∀ i, mI M' r i = if i = 2 then (a : Int) + 1 else if i = 7 then l5 else mI M r i) → (∀ b, b ≠ r → mI M' b = mI M b) → Q 0 M') : h_RR_closeInner_286 G d r l5 M Q := by
  refine k_RR_closeInner_286 h.1 (i32s (by omega) (by omega)) ⟨h.2.1.1, h5, fun M203 e203 => ?_⟩
  obtain ⟨h1, f1, g1, n1⟩ := rb_fld h (i32s (by omega) (by omega)) e203
  have e2 : mI M203 r 2 = a := by rw [g1, if_neg (by decide)]; exact ha
  rw [e2]
  refine ⟨⟨by omega, by omega⟩, fun M206 e206 => ?_⟩
  obtain ⟨h2, f2, g2, n2⟩ := rb_fld h1 ⟨by omega, by omega⟩ e206
  exact hq M206 h2 (f1.trans f2) (fun i => by
    rw [g2]
    by_cases y : i = 2
    · rw [if_pos y, if_pos y]
    · rw [if_neg y, if_neg y, g1]) (fun b hb => by rw [n2 b hb, n1 b hb])
/-- the operation that was open last is taken off, and a word is passed -/
theorem s_ciPop {Q : Int → mM → Prop} (h : RB M z r w T A B D N C n p O P K) (ha : mI M r 2 = a) (han : a ≤ 16384) (hk : mI M r 12 = ((k + 1 : Nat) : Int)) (hk3 : k < 336) {e : Nat} (he : mI M r 5 = ((e + 1 : Nat) : Int)) (he4 : e < 40) (hq : ∀ M', RB M' z r w T A B D N C n p O P K → FI (rdS r p O P) M M' → (∀ i, mI M' r i = if i = 2 then (a : Int) + 1 else if i = 7 then 0 else if i = 5 then (e : Int) else if i = 12 then (k : Int) else mI M r i) → (∀ b, b ≠ r → mI M' b = mI M b) → Q 0 M') : mK M r = 4 ∧ i32 ((mI M r 12) - 1) ∧ ∀ M110, M110 = mUI M r 12 ((mI M r 12) - 1) → i32 ((mI M110 r 5) - 1) ∧ ∀ M113, M113 = mUI M110 r 5 ((mI M110 r 5) - 1) → h_RR_closeInner_286 G d r 0 M113 Q := by
  rw [hk, show ((k + 1 : Nat) : Int) - 1 = (k : Int) by omega]
  refine ⟨h.2.1.1, ⟨by omega, by omega⟩, fun M110 e110 => ?_⟩
  obtain ⟨h1, f1, g1, n1⟩ := rb_fld h ⟨by omega, by omega⟩ e110
  have e5 : mI M110 r 5 = ((e + 1 : Nat) : Int) := by rw [g1, if_neg (by decide)]; exact he
  rw [e5, show ((e + 1 : Nat) : Int) - 1 = (e : Int) by omega]
  refine ⟨⟨by omega, by omega⟩, fun M113 e113 => ?_⟩
  obtain ⟨h2, f2, g2, n2⟩ := rb_fld h1 ⟨by omega, by omega⟩ e113
  refine s_ci286 (a := a) (Or.inl rfl) h2 (by rw [g2, if_neg (by decide), g1, if_neg (by decide)]; exact ha) han (fun M' h' f' g' n' => hq M' h' ((f1.trans f2).trans f') (fun i => ?_) (fun b hb => by rw [n' b hb, n2 b hb, n1 b hb]))
  rw [g']
  by_cases y2 : i = 2
  · rw [if_pos y2, if_pos y2]
  · by_cases y7 : i = 7
    · rw [if_neg y2, if_pos y7, if_neg y2, if_pos y7]
    · rw [if_neg y2, if_neg y7, if_neg y2, if_neg y7, g2]
      by_cases y5 : i = 5
      · rw [if_pos y5, if_pos y5]
      · rw [if_neg y5, if_neg y5, g1]
end RRE
end
section
/-! The class's reader of rules: ':' behind '?'. -/
section RRF
variable {G : mG} {d z r w T A B D N C n p O P K k a s L L' V F d0 c : Nat} {M0 M M' M1 M2 : mM} {H H' : Nat → Nat} {ns : Nat → Int} {wt : Int}
end RRF
end
section
/-! The class's reader of rules: ',' and ')' of least and most. -/
section RRI
variable {G : mG} {d z r w T A B D N C n p O P K k a s L L1 V F d0 c : Nat} {M0 M M' M1 M2 : mM} {H H1 : Nat → Nat} {ns : Nat → Int} {wt : Int}
/-- the order of a list, if there is one, stands -/
def liA (M : mM) (z r w T A B D N C n p O P K s V F : Nat) (ns : Nat → Int) (H : Nat → Nat) (L k a : Nat) (H1 : Nat → Nat) (L1 : Nat) (M1 : mM) : Prop := RB M1 z r w T A B D N C n p O P K ∧ FI (rdS r p O P) M M1 ∧ (∀ b, r ≤ b → b ≤ r + 9 → mI M1 b = mI M b) ∧ (∀ i, mI M1 p i = if i = 2 then (L1 : Int) else mI M p i) ∧ (∀ i, i < L → mI M1 O i = mI M O i ∧ mI M1 P i = mI M P i) ∧ L ≤ L1 ∧ (∀ i, i ≤ L → H1 i = H i) ∧ H1 L1 = 1 + bs M r k ∧ H1 L1 + s ≤ L1 ∧ CO M1 O P V F ns H1 s L1 (pdg M r (k + 1)) ∧ L1 + se M r k ≤ a + 1
end RRI
end
section
/-! The class's reader of rules: closeInner. -/
section RRJ
variable {G : mG} {d z r w T A B D N C n p O P K k a s L L1 V F d0 c : Nat} {M0 M M' M1 M2 : mM} {H H1 : Nat → Nat} {ns : Nat → Int} {wt : Int}
end RRJ
end
section
/-! The class's reader of rules: takeOperator. -/
section RRK
variable {G : mG} {d z r w T A B D N C n p O P K k a s L L1 V F d0 c : Nat} {M0 M M' M1 M2 : mM} {H H1 : Nat → Nat} {ns : Nat → Int} {wt : Int}
/-- what reading a rule may change -/
def rrF (M : mM) (r p O P s : Nat) (M' : mM) : Prop := FI (rdS r p O P) M M' ∧ (∀ i, i ≠ 2 → i ≠ 3 → i ≠ 4 → i ≠ 5 → i ≠ 7 → i ≠ 12 → i ≠ 14 → mI M' r i = mI M r i) ∧ (mI M r 3 ≠ 0 → mI M' r 3 = mI M r 3) ∧ (∀ i, 6 ≤ i → i ≤ 9 → mI M' (r + i) = mI M (r + i)) ∧ (∀ i, i ≠ 2 → mI M' p i = mI M p i) ∧ (∀ i, i < s → mI M' O i = mI M O i ∧ mI M' P i = mI M P i)
theorem rrF.refl : rrF M r p O P s M := ⟨FI.refl, fun _ _ _ _ _ _ _ _ => rfl, fun _ => rfl, fun _ _ _ => rfl, fun _ _ => rfl, fun _ _ => ⟨rfl, rfl⟩⟩
theorem rrF.trans (f : rrF M0 r p O P s M) (g : rrF M r p O P s M') : rrF M0 r p O P s M' := by
  obtain ⟨a1, a2, a3, a4, a5, a6⟩ := f
  obtain ⟨b1, b2, b3, b4, b5, b6⟩ := g
  refine ⟨a1.trans b1, fun i i2 i3 i4 i5 i7 i12 i14 => by rw [b2 i i2 i3 i4 i5 i7 i12 i14, a2 i i2 i3 i4 i5 i7 i12 i14], fun q => ?_, fun i i6 i9 => by rw [b4 i i6 i9, a4 i i6 i9], fun i i2 => by rw [b5 i i2, a5 i i2], fun i hi => ⟨by rw [(b6 i hi).1, (a6 i hi).1], by rw [(b6 i hi).2, (a6 i hi).2]⟩⟩
  have h3 := a3 q
  rw [b3 (by rw [h3]; exact q), h3]
/-- what a step comes to: 0 it goes on, 1 the rule is over, 2 a word is refused -/
def rtQ (M0 : mM) (z r w T A B D N C n p O P K s V F : Nat) (ns : Nat → Int) (d0 : Nat) (a : Nat) (x : Int) (M' : mM) : Prop := RB M' z r w T A B D N C n p O P K ∧ rrF M0 r p O P s M' ∧ (x = 0 ∨ x = 1 ∨ x = 2) ∧ ∃ H' L' k' wt' a', RG M' r p O P n s V F ns d0 H' L' k' a' wt' ∧ a ≤ a' ∧ (x = 1 → k' = 0 ∧ wt' = 0)
theorem RG.ref (g : RG M r p O P n s V F ns d0 H L k a wt) : ∃ a' L' : Nat, mI M r 2 = a' ∧ mI M p 2 = L' ∧ a' ≤ n ∧ s ≤ L' ∧ L' ≤ a' := by
  obtain ⟨⟨g1, -, -, g4⟩, -, ⟨g5, g6⟩, -, -, -, -, -, -, g7, -⟩ := g
  exact ⟨a, L, g1, g4, g5, g6, by omega⟩
theorem sg_st {x : Int} (g : RG M r p O P n s V F ns d0 H L k a 0) (f : rrF M0 r p O P s M) (q : sgQ M z r w T A B D N C n p O P K s V F ns d0 H L k a x M') : rtQ M0 z r w T A B D N C n p O P K s V F ns d0 a x M' := by
  obtain ⟨q1, q2, q3, q4, q5, q6, q7⟩ := q
  have gs := g.2.2.1.2
  refine ⟨q1, f.trans ⟨q2, fun i i2 i3 i4 i5 i7 i12 i14 => q3 i i2 i5 i7 i12 i14, fun _ => q3 3 (by decide) (by decide) (by decide) (by decide) (by decide), q4, q5, fun i hi => q6 i (by omega)⟩, ?_⟩
  rcases q7 with ⟨e, e2⟩ | ⟨e, H', L', g', -⟩
  · rw [e2]
    exact ⟨Or.inr (Or.inr e), H, L, k, 0, a, g, by omega, fun u => absurd u (by omega)⟩
  · exact ⟨Or.inl e, H', L', k + 1, 1, a + 1, g', by omega, fun u => absurd u (by omega)⟩
theorem s_RR_closeInner0 (g : RG M r p O P n s V F ns d0 H L (k + 1) a 0) (h : RB M z r w T A B D N C n p O P K) : Ci G y_RR_closeInner (d + 1) [vr r, vi 0, vi k] M (fun x M' => x = 2 ∧ M' = M) := by
  have rm := g.room
  obtain ⟨-, ⟨k0, ⟨q8, -, -, q11, -⟩, ⟨kk1, -⟩, ⟨nn1, -⟩⟩, -⟩ := id h
  refine k_RR_closeInner h.1 (i32s (by omega) (by omega)) ⟨by omega, by omega⟩ ?_
  rw [q8, nn1, Int.toNat_natCast, q11]
  refine ⟨k0, kk1, by omega, fun v5 e5 => ⟨by omega, fun _ => by omega, fun v14 e14 v25 e25 => ⟨fun y => ?_, fun _ => ⟨rfl, rfl⟩⟩⟩⟩
  exfalso
  have z25 : v25 = 0 := by
    rw [e25]
    by_cases u : v5 = 0
    · rw [if_pos (Or.inl ⟨u, Or.inr (by omega)⟩)]
    · rw [if_pos (Or.inr ⟨u, by omega, Or.inr (by omega)⟩)]
  rcases y with u | u
  · exact u z25
  · exact absurd u.2 (by omega)
theorem g_rrF {M9 : mM} (q : gQ M z r w T A B D N C n p O P K s V F ns d0 H L k a M9) : rrF M r p O P s M9 := by
  obtain ⟨-, q2, q3, q4, q5, q6, q7, -⟩ := q
  exact ⟨q2, fun i i2 i3 i4 i5 i7 i12 i14 => q3 i i3 i4 i5 i12 i14, q4, q5, q6, q7⟩
end RRK
end
section
/-! The class's reader of rules: takeOperator, the whole. -/
section RRL
variable {G : mG} {d z r w T A B D N C n p O P K k a s L L1 V F d0 c : Nat} {M0 M M' M1 M2 : mM} {H H1 : Nat → Nat} {ns : Nat → Int} {wt : Int}
theorem lvl_pos {o : Int} (h : 0 < lvl o) : (19 ≤ o ∧ o ≤ 31) ∨ o = 41 := by
  unfold lvl at h
  split at h
  · omega
  split at h
  · omega
  split at h
  · omega
  split at h
  · omega
  split at h
  · omega
  split at h
  · omega
  · exact absurd h (by omega)
/-- the level from which on all is grouped -/
def tgh (o : Int) : Int := if lvl o = 4 then lvl o + 1 else if lvl o < 1 then 1 else lvl o
end RRL
end
section
/-! The class's reader of rules: the names that it knows, and operands. -/
section RRM
variable {G : mG} {d z r w T A B D N C n p O P K k a a' s L L1 V F d0 c : Nat} {M0 M M' M1 M2 : mM} {H H1 : Nat → Nat} {ns : Nat → Int} {wt : Int}
/-- the c names that are known: words, sorts, numbers, kinds -/
def NK (M : mM) (r A n V F : Nat) (ns : Nat → Int) (c : Nat) : Prop := mI M r 19 = c ∧ c ≤ 72 ∧ ∀ i, i < c → (∃ v : Nat, mI M (r + 6) i = v ∧ v < n ∧ mI M A v = 2) ∧ ((mI M (r + 7) i = 5 ∧ 0 ≤ mI M (r + 8) i ∧ (mI M r 6 = 0 → mI M (r + 8) i < V)) ∨ (mI M (r + 7) i = 4 ∧ 0 ≤ mI M (r + 8) i ∧ mI M (r + 8) i < F ∧ ns (mI M (r + 8) i).toNat = 4) ∨ (mI M (r + 7) i = 7 ∧ 0 ≤ mI M (r + 8) i ∧ (mI M r 6 = 0 → mI M (r + 8) i < F ∧ ns (mI M (r + 8) i).toNat = 7))) ∧ (mI M (r + 9) i = 0 ∨ mI M (r + 9) i = 1)
/-- all names that are known -/
def TN (M : mM) (r A n V F : Nat) (ns : Nat → Int) (c : Nat) : Prop := mI M r 19 = c ∧ c ≤ 72 ∧ ∀ i, i < c → (∃ v : Nat, mI M (r + 6) i = v ∧ v < n ∧ mI M A v = 2) ∧ ((mI M (r + 7) i = 5 ∧ 0 ≤ mI M (r + 8) i ∧ mI M (r + 8) i < V) ∨ ((mI M (r + 7) i = 4 ∨ mI M (r + 7) i = 7) ∧ 0 ≤ mI M (r + 8) i ∧ mI M (r + 8) i < F ∧ ns (mI M (r + 8) i).toNat = mI M (r + 7) i)) ∧ (mI M (r + 9) i = 0 ∨ mI M (r + 9) i = 1)
/-- where only consts may stand -/
def nsc (ns : Nat → Int) : Nat → Int := fun x => if ns x = 4 then 4 else 0
theorem TN.nk (h : TN M r A n V F ns c) : NK M r A n V F ns c := by
  refine ⟨h.1, h.2.1, fun i hi => ?_⟩
  obtain ⟨h1, h2, h3⟩ := h.2.2 i hi
  refine ⟨h1, ?_, h3⟩
  rcases h2 with ⟨u1, u2, u3⟩ | ⟨u1, u2, u3, u4⟩
  · exact Or.inl ⟨u1, u2, fun _ => u3⟩
  · rcases u1 with e | e
    · exact Or.inr (Or.inl ⟨e, u2, u3, by rw [u4]; exact e⟩)
    · exact Or.inr (Or.inr ⟨e, u2, fun _ => ⟨u3, by rw [u4]; exact e⟩⟩)
theorem TN.nkc (h : TN M r A n V F ns c) (h6 : mI M r 6 ≠ 0) : NK M r A n 0 F (nsc ns) c := by
  refine ⟨h.1, h.2.1, fun i hi => ?_⟩
  obtain ⟨h1, h2, h3⟩ := h.2.2 i hi
  refine ⟨h1, ?_, h3⟩
  rcases h2 with ⟨u1, u2, u3⟩ | ⟨u1, u2, u3, u4⟩
  · exact Or.inl ⟨u1, u2, fun q => absurd q h6⟩
  · rcases u1 with e | e
    · refine Or.inr (Or.inl ⟨e, u2, u3, ?_⟩)
      unfold nsc
      rw [if_pos (by rw [u4]; exact e)]
    · exact Or.inr (Or.inr ⟨e, u2, fun q => absurd q h6⟩)
theorem RB.word (h : RB M z r w T A B D N C n p O P K) (f : FI (rdS r p O P) M M') : mI M' A = mI M A ∧ mI M' B = mI M B ∧ mI M' D = mI M D := by
  have hs := h.2.2.2.2.2.1.2.2
  have no : ∀ x, (x = w ∨ x = T ∨ x = A ∨ x = B ∨ x = D) → ¬ rdS r p O P x := fun x hx q => by
    have q' : (r ≤ x ∧ x ≤ r + 9) ∨ x = p ∨ x = O ∨ x = P := q
    have := hs x hx
    omega
  exact ⟨f.2.2.2.2.2.2 A (no A (by omega)), f.2.2.2.2.2.2 B (no B (by omega)), f.2.2.2.2.2.2 D (no D (by omega))⟩
theorem NK.rr (nk : NK M r A n V F ns c) (h : RB M z r w T A B D N C n p O P K) (f : rrF M r p O P s M') : NK M' r A n V F ns c := by
  have hA := (h.word f.1).1
  obtain ⟨-, f2, -, f4, -⟩ := f
  unfold NK at nk ⊢
  rw [hA, f2 19 (by decide) (by decide) (by decide) (by decide) (by decide) (by decide) (by decide), f2 6 (by decide) (by decide) (by decide) (by decide) (by decide) (by decide) (by decide), f4 6 (by omega) (by omega), f4 7 (by omega) (by omega), f4 8 (by omega) (by omega), f4 9 (by omega) (by omega)]
  exact nk
theorem RG.cg (g : RG M r p O P n s V F ns d0 H L k a wt) (h2 : mI M' r 2 = a') (haa : a ≤ a') (han : a' ≤ n) (h12 : mI M' r 12 = mI M r 12) (h7 : mI M' r 7 = mI M r 7) (h14 : mI M' r 14 = mI M r 14) (h5 : mI M' r 5 = mI M r 5) (t : ∀ i, 1 ≤ i → i ≤ 5 → mI M' (r + i) = mI M (r + i)) (tp : mI M' p 2 = mI M p 2) (tO : mI M' O = mI M O) (tP : mI M' P = mI M P) : RG M' r p O P n s V F ns d0 H L k a' wt := by
  obtain ⟨⟨g1, g2, g3, g4⟩, gw, ⟨ga, gs⟩, gc, ⟨gd, gd4⟩, gr, ge, gH, gC, gL, gt⟩ := g
  have l1 : ∀ j, mI M' (r + 1) j = mI M (r + 1) j := fun j => by rw [t 1 (by omega) (by omega)]
  have l2 : ∀ j, mI M' (r + 2) j = mI M (r + 2) j := fun j => by rw [t 2 (by omega) (by omega)]
  have l3 : ∀ j, mI M' (r + 3) j = mI M (r + 3) j := fun j => by rw [t 3 (by omega) (by omega)]
  have l4 : ∀ j, mI M' (r + 4) j = mI M (r + 4) j := fun j => by rw [t 4 (by omega) (by omega)]
  have sm := fun i hi => sums_cg (M := M) (M' := M') (r := r) (k := k) (fun j _ => l1 j) (fun j _ => l4 j) i hi
  obtain ⟨s1, s2, s3, s4⟩ := sm k (Nat.le_refl _)
  refine ⟨⟨h2, by rw [h12]; exact g2, by rw [h7]; exact g3, by rw [tp]; exact g4⟩, gw, ⟨han, gs⟩, by rw [h14, s2]; exact gc, ⟨by rw [h5, s4]; exact gd, by rw [s4]; exact gd4⟩, fun i hi => by rw [(sm (i + 1) (by omega)).2.2.2, l1]; exact gr i hi, fun i hi => (ge i hi).cg (fun j _ => l1 j) (l2 i) (l3 i) (fun j _ => l4 j) (Nat.le_refl _) (fun j _ => by rw [tO]) (fun _ _ => rfl), by rw [s1]; exact gH, ?_, by rw [s3]; omega, fun j => by rw [t 5 (by omega) (by omega)]; exact gt j⟩
  intro pc h0 h1
  rw [tO, tP]
  obtain ⟨a1, a2, a3⟩ := gC pc h0 h1
  exact ⟨a1, fun q => (a2 q).imp (fun u => pdg_cg u (Nat.le_refl _) (fun j _ => l1 j) (fun j _ => l3 j)) (fun u => u), a3⟩
theorem v_rt {y : Int} (g : RG M r p O P n s V F ns d0 H L k a 1) (f : rrF M0 r p O P s M) (q : y = 0 ∧ RB M' z r w T A B D N C n p O P K ∧ FI (rdS r p O P) M M' ∧ (∀ i, i ≠ 2 → i ≠ 7 → i ≠ 14 → mI M' r i = mI M r i) ∧ (∀ i, 6 ≤ i → i ≤ 9 → mI M' (r + i) = mI M (r + i)) ∧ (∀ i, i ≠ 2 → mI M' p i = mI M p i) ∧ (∀ i, i ≠ L → mI M' O i = mI M O i ∧ mI M' P i = mI M P i) ∧ ∃ H', RG M' r p O P n s V F ns d0 H' (L + 1) k (a + 1) 0 ∧ ∀ i, i ≤ L → H' i = H i) : i32 y ∧ mOk M' ∧ rtQ M0 z r w T A B D N C n p O P K s V F ns d0 a y M' := by
  obtain ⟨e, q1, q2, q3, q4, q5, q6, H', g', -⟩ := q
  have gs := g.2.2.1.2
  refine ⟨by rw [e]; exact i32s (by omega) (by omega), q1.1, q1, f.trans ⟨q2, fun i i2 _ _ _ i7 _ i14 => q3 i i2 i7 i14, fun _ => q3 3 (by decide) (by decide) (by decide), q4, q5, fun i hi => q6 i (by omega)⟩, Or.inl e, H', L + 1, k, 0, a + 1, g', by omega, fun u => absurd u (by omega)⟩
theorem l_rt {x : Int} (haa : a ≤ a') (g : RG M r p O P n s V F ns d0 H L k a' 1) (f : rrF M0 r p O P s M) (q : lvQ M z r w T A B D N C n p O P K s V F ns d0 H L k a' x M') : i32 x ∧ mOk M' ∧ rtQ M0 z r w T A B D N C n p O P K s V F ns d0 a x M' := by
  obtain ⟨q1, q2, q3, q4, ⟨q5, q6, q7⟩, q8⟩ := q
  refine ⟨?_, q1.1, q1, f.trans ⟨q2, fun i i2 _ _ i5 i7 i12 _ => q3 i i2 i5 i7 i12, fun _ => q3 3 (by decide) (by decide) (by decide) (by decide), fun i i6 i9 => q4 i (by omega) i9, fun i _ => by rw [q5], fun i _ => ⟨by rw [q6], by rw [q7]⟩⟩, ?_⟩
  · rcases q8 with ⟨e, -⟩ | ⟨e, -⟩ <;> rw [e] <;> exact i32s (by omega) (by omega)
  · rcases q8 with ⟨e, e2⟩ | ⟨e, g'⟩
    · rw [e2]; exact ⟨Or.inr (Or.inr e), H, L, k, 1, a', g, by omega, fun u => absurd u (by omega)⟩
    · exact ⟨Or.inl e, H, L, k + 1, 1, a' + 1, g', by omega, fun u => absurd u (by omega)⟩
end RRM
end
section
/-! The class's reader of rules: takeOperand. -/
section RRN
variable {G : mG} {d z r w T A B D N C n p O P K k a a' s L L1 V F d0 c : Nat} {M0 M M' M1 M2 : mM} {H H1 : Nat → Nat} {ns : Nat → Int} {wt : Int}
end RRN
end
end
section
section
/-! The class's reader of rules: readRule, begin, know, varOf, kindOf. -/
section RRO
variable {G : mG} {d z r w T A B D N C n p O P K k a a' s L L1 V F d0 c : Nat} {M0 M M' M1 M2 : mM} {H H1 : Nat → Nat} {ns : Nat → Int} {wt : Int}
/-- what reading a rule comes to: 1 its code stands from s to L' -/
def rleQ (M0 : mM) (z r w T A B D N C n p O P K s V F : Nat) (ns : Nat → Int) (d0 : Nat) (a : Nat) (x : Int) (M' : mM) : Prop := RB M' z r w T A B D N C n p O P K ∧ rrF M0 r p O P s M' ∧ (∀ j, mI M' (r + 5) j = 0 ∨ mI M' (r + 5) j = 1) ∧ ((x = 0 ∧ ∃ a' L' : Nat, mI M' r 2 = a' ∧ mI M' p 2 = L' ∧ a' ≤ n ∧ s ≤ L' ∧ L' ≤ a') ∨ (x = 1 ∧ ∃ H' L' a', RG M' r p O P n s V F ns d0 H' L' 0 a' 0 ∧ a ≤ a'))
end RRO
end
section
/-! The class's reader: its piles in memory. -/
/-- the first entries of an array, the last of them first -/
def Ls (f : Nat → Int) : List Int → Prop
  | [] => True
  | x :: t => f t.length = x ∧ Ls f t
section LS
variable {f f' : Nat → Int} {x : Int}
theorem Ls.cg : ∀ {l : List Int}, Ls f l → (∀ i, i < l.length → f' i = f i) → Ls f' l
  | [], _, _ => trivial
  | y :: t, h, e => ⟨by rw [e t.length (by show t.length < t.length + 1; omega)]; exact h.1, h.2.cg (fun i hi => e i (by show i < t.length + 1; omega))⟩
theorem Ls.put {l : List Int} (h : Ls f l) (e : ∀ i, f' i = if i = l.length then x else f i) : Ls f' (x :: l) :=
  ⟨by rw [e, if_pos rfl], h.cg (fun i hi => by rw [e, if_neg (by omega)])⟩
end LS
/-- what reading a rule hangs on: words, kinds of names, places, orders of words; the rule's first word and the fault before it; the pile below, the rule's strength; where the machine began -/
abbrev Ru : Type := (Nat → Int) × (Nat → Int) × (Nat → Int) × (Nat → Int × Int) × (Nat × (Int × Int)) × (List Int × Nat) × (List Int × Nat)
def ruW (u : Ru) : Nat → Int := u.1
def uE (u : Ru) : Nat → Int := u.2.1
def uP (u : Ru) : Nat → Int := u.2.2.1
def uC (u : Ru) : Nat → Int × Int := u.2.2.2.1
def ruI (u : Ru) : Nat := u.2.2.2.2.1.1
def uF (u : Ru) : Int × Int := u.2.2.2.2.1.2
def uZ (u : Ru) : List Int := u.2.2.2.2.2.1.1
def uQ (u : Ru) : Nat := u.2.2.2.2.2.1.2
def uS (u : Ru) : List Int := u.2.2.2.2.2.2.1
def uK (u : Ru) : Nat := u.2.2.2.2.2.2.2
/-- the operations' numbers -/
def ops (gs : List gqq) : List Int := gs.map (fun g => g.1)
/-- the fault that is noted -/
def FT (M : mM) (r : Nat) (ft : Int × Int) : Prop := mI M r 3 = ft.1 ∧ (ft.1 ≠ 0 → mI M r 4 = ft.2)
/-- a fault is noted, if there was none -/
def Fqq (M : mM) (r : Nat) (v : Int × Int) (M' : mM) : Prop := ∀ ft, FT M r ft → FT M' r (fst9 ft v)
/-- the piles -/
def RWc (u : Ru) (M : mM) (r : Nat) (gs : List gqq) (od mq kn : List Int) (ft : Int × Int) : Prop :=
  (Ls (mI M (r + 1)) (ops gs) ∧ Ls (mI M (r + 2)) (gs.map (fun g => uP u g.2.1)) ∧ Ls (mI M (r + 3)) od ∧ Ls (mI M (r + 4)) mq ∧ Ls (mI M (r + 5)) kn) ∧ (mI M r 12 = gs.length ∧ mI M r 14 = kn.length) ∧ (od.length = gs.length ∧ mq.length = gs.length) ∧ FT M r ft ∧ ((5 ≤ uQ u ∧ uQ u ≤ 6) ∧ woq (uQ u) (ops gs)) ∧ mI M r 5 = slv (uZ u) + lvs (ops gs)
/-- an operand is wanted at word a -/
def RW1 (u : Ru) (M : mM) (r O P s L a : Nat) : Prop := ∃ gs od mq kn ft, RWc u M r gs od mq kn ft ∧ GSq (ruW u) (uE u) (uP u) (mI M O) (mI M P) (uC u) (ruI u) s (uF u) gs od mq kn ft L ∧ xs9 (ruI u) gs = a ∧ Rc (ruW u) (uS u) (uK u) (gyW (uZ u) (uQ u) (ops gs)) a
/-- an operand has been read up to word a -/
def RW0 (u : Ru) (M : mM) (r O P s c c' L a : Nat) : Prop := ∃ gs od mq kn ft, RWc u M r gs od mq kn ft ∧ OPq (ruW u) (uE u) (uP u) (mI M O) (mI M P) (uC u) (ruI u) s (uF u) c gs od mq kn ft L a ∧ Rc (ruW u) (uS u) (uK u) (gyR (uZ u) (uQ u) c' (ops gs)) a
section RX
variable {u : Ru} {M M' : mM} {r O P s c c' L a m x : Nat} {gs t : List gqq} {od mq kn kn' : List Int} {ft ft' : Int × Int} {o d k v : Int}
theorem ops_len (gs : List gqq) : (ops gs).length = gs.length := List.length_map _
theorem Fq_none (h3 : mI M' r 3 = mI M r 3) (h4 : mI M' r 4 = mI M r 4) : Fqq M r (0, 0) M' := fun ft h => by
  have e : fst9 ft (0, 0) = ft ∨ (ft.1 = 0 ∧ fst9 ft (0, 0) = (0, 0)) := by
    unfold fst9
    by_cases z : ft.1 = 0
    · rw [if_pos z]; exact Or.inr ⟨z, rfl⟩
    · rw [if_neg z]; exact Or.inl rfl
  rcases e with e | ⟨z, e⟩
  · rw [e]; exact ⟨by rw [h3]; exact h.1, fun q => by rw [h4]; exact h.2 q⟩
  · rw [e]; exact ⟨by rw [h3, h.1]; exact z, fun q => absurd rfl q⟩
theorem Fq_note {x y : Int} (hx : x ≠ 0) (h0 : mI M r 3 = 0 → mI M' r 3 = x ∧ mI M' r 4 = y) (h1 : mI M r 3 ≠ 0 → mI M' r 3 = mI M r 3 ∧ mI M' r 4 = mI M r 4) : Fqq M r (x, y) M' := fun ft h => by
  unfold fst9
  by_cases z : ft.1 = 0
  · rw [if_pos z]
    have := h0 (by rw [h.1]; exact z)
    exact ⟨this.1, fun _ => this.2⟩
  · rw [if_neg z]
    have := h1 (by rw [h.1]; exact z)
    exact ⟨by rw [this.1]; exact h.1, fun q => by rw [this.2]; exact h.2 q⟩
/-- one more operation is open -/
theorem RWc.push (h : RWc u M r gs od mq kn ft) (h12 : mI M' r 12 = mI M r 12 + 1) (t1 : ∀ i, mI M' (r + 1) i = if i = gs.length then o else mI M (r + 1) i) (t2 : ∀ i, mI M' (r + 2) i = if i = gs.length then uP u m else mI M (r + 2) i) (t3 : ∀ i, mI M' (r + 3) i = if i = gs.length then d else mI M (r + 3) i) (t4 : ∀ i, mI M' (r + 4) i = if i = gs.length then k else mI M (r + 4) i) (t5 : Ls (mI M' (r + 5)) kn') (h14 : mI M' r 14 = kn'.length) (hf : FT M' r ft') (hd : mI M' r 5 = mI M r 5 + cdq o) (ho : opq o) (hc : cst o ≤ rsl (uQ u) (ops gs)) : RWc u M' r ((o, m, x) :: gs) (d :: od) (k :: mq) kn' ft' := by
  obtain ⟨⟨a1, a2, a3, a4, a5⟩, ⟨b1, b2⟩, ⟨c1, c2⟩, e1, ⟨q1, q2⟩, f1⟩ := h
  have l1 := ops_len gs
  refine ⟨⟨a1.put (x := o) (fun i => by rw [t1, l1]), a2.put (x := uP u m) (fun i => by rw [t2, List.length_map]), a3.put (x := d) (fun i => by rw [t3, c1]), a4.put (x := k) (fun i => by rw [t4, c2]), t5⟩, ⟨by rw [h12, b1]; rfl, h14⟩, ⟨by show od.length + 1 = gs.length + 1; omega, by show mq.length + 1 = gs.length + 1; omega⟩, hf, ⟨q1, ho, hc, q2⟩, ?_⟩
  rw [hd, f1]
  show _ = slv (uZ u) + ((cdq o + lvs (ops gs) : Nat) : Int)
  omega
/-- the latest open operation goes -/
theorem RWc.pop (h : RWc u M r ((o, m, x) :: t) (d :: od) (k :: mq) kn ft) (h12 : mI M' r 12 = mI M r 12 - 1) (hT : ∀ i, 1 ≤ i → i ≤ 4 → ∀ j, j < t.length → mI M' (r + i) j = mI M (r + i) j) (t5 : Ls (mI M' (r + 5)) kn') (h14 : mI M' r 14 = kn'.length) (hf : FT M' r ft') (hd : mI M' r 5 = mI M r 5 - cdq o) : RWc u M' r t od mq kn' ft' := by
  obtain ⟨⟨a1, a2, a3, a4, a5⟩, ⟨b1, b2⟩, ⟨c1, c2⟩, e1, ⟨q1, q2⟩, f1⟩ := h
  have l1 := ops_len t
  have c1 : od.length + 1 = t.length + 1 := c1
  have c2 : mq.length + 1 = t.length + 1 := c2
  refine ⟨⟨a1.2.cg (fun i hi => hT 1 (by omega) (by omega) i (by rw [← l1]; exact hi)), a2.2.cg (fun i hi => hT 2 (by omega) (by omega) i (by rw [List.length_map] at hi; exact hi)), a3.2.cg (fun i hi => hT 3 (by omega) (by omega) i (by omega)), a4.2.cg (fun i hi => hT 4 (by omega) (by omega) i (by omega)), t5⟩, ⟨by rw [h12, b1]; show ((t.length + 1 : Nat) : Int) - 1 = _; omega, h14⟩, ⟨by omega, by omega⟩, hf, ⟨q1, q2.2.2⟩, ?_⟩
  have f1 : mI M r 5 = slv (uZ u) + ((cdq o + lvs (ops t) : Nat) : Int) := f1
  rw [hd, f1]
  omega
/-- the latest open operation becomes another -/
theorem RWc.top {o' d' k' : Int} {x' : Nat} (h : RWc u M r ((o, m, x) :: t) (d :: od) (k :: mq) kn ft) (h12 : mI M' r 12 = mI M r 12) (t1 : ∀ i, mI M' (r + 1) i = if i = t.length then o' else mI M (r + 1) i) (t2 : ∀ i, mI M' (r + 2) i = mI M (r + 2) i) (t3 : ∀ i, mI M' (r + 3) i = if i = t.length then d' else mI M (r + 3) i) (t4 : ∀ i, mI M' (r + 4) i = if i = t.length then k' else mI M (r + 4) i) (t5 : Ls (mI M' (r + 5)) kn') (h14 : mI M' r 14 = kn'.length) (hf : FT M' r ft') (hd : mI M' r 5 = mI M r 5) (ho : opq o') (hcd : cdq o' = cdq o) (hc : cst o' = cst o) : RWc u M' r ((o', m, x') :: t) (d' :: od) (k' :: mq) kn' ft' := by
  obtain ⟨⟨a1, a2, a3, a4, a5⟩, ⟨b1, b2⟩, ⟨c1, c2⟩, e1, ⟨q1, q2⟩, f1⟩ := h
  have l1 := ops_len t
  have c1 : od.length + 1 = t.length + 1 := c1
  have c2 : mq.length + 1 = t.length + 1 := c2
  refine ⟨⟨Ls.put (f := mI M (r + 1)) a1.2 (fun i => by rw [t1]; show _ = if i = (ops t).length then _ else _; rw [l1]), ?_, Ls.put (f := mI M (r + 3)) a3.2 (fun i => by rw [t3, show t.length = od.length by omega]), Ls.put (f := mI M (r + 4)) a4.2 (fun i => by rw [t4, show t.length = mq.length by omega]), t5⟩, ⟨by rw [h12]; exact b1, h14⟩, ⟨c1, c2⟩, hf, ⟨q1, ho, by rw [hc]; exact q2.2.1, q2.2.2⟩, ?_⟩
  · exact Ls.cg (l := uP u m :: t.map (fun g => uP u g.2.1)) a2 (fun i _ => t2 i)
  · have f1 : mI M r 5 = slv (uZ u) + ((cdq o + lvs (ops t) : Nat) : Int) := f1
    rw [hd, f1]
    show _ = slv (uZ u) + ((cdq o' + lvs (ops t) : Nat) : Int)
    rw [hcd]
theorem RWc.kn1 (h : RWc u M r gs od mq (v :: kn) ft) : mI M (r + 5) kn.length = v ∧ Ls (mI M (r + 5)) kn := ⟨h.1.2.2.2.2.1, h.1.2.2.2.2.2⟩
theorem RWc.hd (h : RWc u M r ((o, m, x) :: t) (d :: od) (k :: mq) kn ft) : mI M (r + 1) t.length = o ∧ mI M (r + 2) t.length = uP u m ∧ mI M (r + 3) t.length = d ∧ mI M (r + 4) t.length = k ∧ mI M r 12 = ((t.length + 1 : Nat) : Int) := by
  obtain ⟨⟨a1, a2, a3, a4, a5⟩, ⟨b1, b2⟩, ⟨c1, c2⟩, -⟩ := h
  have l1 := ops_len t
  have c1 : od.length + 1 = t.length + 1 := c1
  have c2 : mq.length + 1 = t.length + 1 := c2
  have q1 : mI M (r + 1) (ops t).length = o := a1.1
  have q2 : mI M (r + 2) (t.map (fun g => uP u g.2.1)).length = uP u m := a2.1
  have q3 : mI M (r + 3) od.length = d := a3.1
  have q4 : mI M (r + 4) mq.length = k := a4.1
  rw [l1] at q1
  rw [List.length_map] at q2
  rw [show od.length = t.length by omega] at q3
  rw [show mq.length = t.length by omega] at q4
  exact ⟨q1, q2, q3, q4, b1⟩
end RX
end
section
/-! The class's reader: its steps over its piles in memory. -/
section RY
variable {u : Ru} {M M' : mM} {r O P s c c' L a m x k kk : Nat} {gs t : List gqq} {od mq kn kn' : List Int} {ft ft' : Int × Int} {o d v : Int}
theorem RWc.keep (h : RWc u M r gs od mq kn ft) (h12 : mI M' r 12 = mI M r 12) (hT : ∀ i, 1 ≤ i → i ≤ 4 → mI M' (r + i) = mI M (r + i)) (t5 : Ls (mI M' (r + 5)) kn') (h14 : mI M' r 14 = kn'.length) (hf : FT M' r ft') (hd : mI M' r 5 = mI M r 5) : RWc u M' r gs od mq kn' ft' := by
  obtain ⟨⟨a1, a2, a3, a4, a5⟩, ⟨b1, b2⟩, c1, e1, q1, f1⟩ := h
  exact ⟨⟨by rw [hT 1 (by omega) (by omega)]; exact a1, by rw [hT 2 (by omega) (by omega)]; exact a2, by rw [hT 3 (by omega) (by omega)]; exact a3, by rw [hT 4 (by omega) (by omega)]; exact a4, t5⟩, ⟨by rw [h12]; exact b1, h14⟩, c1, hf, q1, by rw [hd]; exact f1⟩
theorem RWc.q6 (h : RWc u M r gs od mq kn ft) : uQ u ≤ 6 := h.2.2.2.2.1.1.2
theorem RWc.wo (h : RWc u M r gs od mq kn ft) : woq (uQ u) (ops gs) := h.2.2.2.2.1.2
theorem RWc.dp (h : RWc u M r gs od mq kn ft) : mI M r 5 = slv (uZ u) + lvs (ops gs) := h.2.2.2.2.2
theorem RWc.kl (h : RWc u M r gs od mq kn ft) : mI M r 12 = gs.length := h.2.1.1
theorem cdq0 {o : Int} (h : 19 ≤ o ∧ o ≤ 31) : cdq o = 0 := by unfold cdq; rw [if_neg (by omega)]
/-- a value -/
theorem RW1.val (h : RW1 u M r O P s L a) (hw : ruW u a = 1 ∨ ruW u a = 2 ∨ ruW u a = 12 ∨ ruW u a = 13) (h12 : mI M' r 12 = mI M r 12) (h5 : mI M' r 5 = mI M r 5) (hkk : mI M r 14 = kk) (h14 : mI M' r 14 = (kk : Int) + 1) (hT : ∀ i, 1 ≤ i → i ≤ 4 → mI M' (r + i) = mI M (r + i)) (t5 : ∀ i : Nat, mI M' (r + 5) i = if i = kk then kdq (ruW u) (uE u) 0 a (a + 1) else mI M (r + 5) i) (hO : ∀ i, mI M' O i = if i = L then (uC u a).1 else mI M O i) (hP : ∀ i, mI M' P i = if i = L then (uC u a).2 else mI M P i) (hF : Fqq M r (fl (ruW u) (uE u) (uP u) 0 a (a + 1)) M') : RW0 u M' r O P s 0 0 (L + 1) (a + 1) := by
  obtain ⟨gs, od, mq, kn, ft, h1, h2, h3, h4⟩ := h
  have hl : kk = kn.length := by have := h1.2.1.2; omega
  exact ⟨gs, od, mq, _, _, h1.keep h12 hT (h1.1.2.2.2.2.put (fun i => by rw [t5, hl])) (by rw [h14, hl]; rfl) (hF ft h1.2.2.2.1) h5, OPq.val h2 h3 hw (fun i hi => ⟨by rw [hO, if_neg (by omega)], by rw [hP, if_neg (by omega)]⟩) (by rw [hO, if_pos rfl]) (by rw [hP, if_pos rfl]), h4.trans (sim_val h1.q6 hw)⟩
theorem FT.same (h : FT M r ft) (h3 : mI M' r 3 = mI M r 3) (h4 : mI M' r 4 = mI M r 4) : FT M' r ft := ⟨by rw [h3]; exact h.1, fun q => by rw [h4]; exact h.2 q⟩
/-- where a '!' may stand -/
def myd (M : mM) (r : Nat) : Prop := mI M r 12 = 0 ∨ ∃ j : Nat, mI M r 12 = (j : Int) + 1 ∧ lvl (mI M (r + 1) j) < 4 ∧ mI M (r + 1) j ≠ 40
theorem RWc.rsl3 (h : RWc u M r gs od mq kn ft) : myd M r ↔ 3 ≤ rsl (uQ u) (ops gs) := by
  cases gs with
  | nil =>
    have e : mI M r 12 = 0 := h.kl
    exact ⟨fun _ => by have := h.2.2.2.2.1.1.1; show 3 ≤ uQ u; omega, fun _ => Or.inl e⟩
  | cons g t =>
    obtain ⟨o, m, x⟩ := g
    have hkl : mI M r 12 = ((t.length + 1 : Nat) : Int) := h.kl
    have hop : mI M (r + 1) t.length = o := by have := h.1.1.1; rw [List.length_map] at this; exact this
    have ho : opq o := h.wo.1
    show _ ↔ 3 ≤ rsq o
    have key : (lvl o < 4 ∧ o ≠ 40) ↔ 3 ≤ rsq o := by
      unfold opq at ho
      unfold lvl rsq
      constructor
      · intro q
        obtain ⟨q1, q2⟩ := q
        (repeat' split at q1) <;> (repeat' split) <;> omega
      · intro q
        (repeat' split at q) <;> (repeat' split) <;> omega
    rw [← key]
    constructor
    · intro q
      rcases q with q | ⟨j, q1, q2, q3⟩
      · omega
      · have : j = t.length := by omega
        rw [this, hop] at q2 q3
        exact ⟨q2, q3⟩
    · intro q
      exact Or.inr ⟨t.length, by omega, by rw [hop]; exact q.1, by rw [hop]; exact q.2⟩
/-- '(' , '-' , '!' -/
theorem RW1.lvl (h : RW1 u M r O P s L a) (ho : (o = 37 ∧ ruW u a = 36) ∨ (o = 40 ∧ ruW u a = 25) ∨ (o = 41 ∧ ruW u a = 31)) (hm : o = 41 → myd M r) (hlt : mI M r 5 < 40) (hk : mI M r 12 = k) (h12 : mI M' r 12 = (k : Int) + 1) (h5 : mI M' r 5 = mI M r 5 + 1) (h3 : mI M' r 3 = mI M r 3) (h4 : mI M' r 4 = mI M r 4) (h14 : mI M' r 14 = mI M r 14) (t1 : ∀ i, mI M' (r + 1) i = if i = k then o else mI M (r + 1) i) (t2 : ∀ i, mI M' (r + 2) i = if i = k then uP u a else mI M (r + 2) i) (t3 : ∀ i, mI M' (r + 3) i = if i = k then -1 else mI M (r + 3) i) (t4 : ∀ i, mI M' (r + 4) i = if i = k then 0 else mI M (r + 4) i) (t5 : mI M' (r + 5) = mI M (r + 5)) (hO : mI M' O = mI M O) (hP : mI M' P = mI M P) : RW1 u M' r O P s L (a + 1) := by
  obtain ⟨gs, od, mq, kn, ft, q1, q2, q3, q4⟩ := h
  have hl : k = gs.length := by have := q1.kl; omega
  subst hl
  have hd : slv (uZ u) + lvs (ops gs) < 40 := by rw [← q1.dp]; exact hlt
  have hc : cst o ≤ rsl (uQ u) (ops gs) := by
    rcases ho with ⟨e, -⟩ | ⟨e, -⟩ | ⟨e, -⟩
    · subst e; exact Nat.zero_le _
    · subst e; exact Nat.zero_le _
    · have := q1.rsl3.mp (hm e)
      subst e
      exact this
  refine ⟨(o, a, a + 1) :: gs, -1 :: od, 0 :: mq, kn, ft, q1.push (by rw [h12, hk]) t1 t2 t3 t4 (by rw [t5]; exact q1.1.2.2.2.2) (by rw [h14]; exact q1.2.1.2) (q1.2.2.2.1.same h3 h4) (by rw [h5]; rcases ho with ⟨e, -⟩ | ⟨e, -⟩ | ⟨e, -⟩ <;> subst e <;> rfl) (by unfold opq; omega) hc, ?_, rfl, ?_⟩
  · rw [hO, hP]
    exact q2.pre q3 ho
  · rcases ho with ⟨e, hx⟩ | ⟨e, hx⟩ | ⟨e, hx⟩
    · subst e; exact q4.trans (sim_open q1.q6 q1.wo hx hd)
    · subst e; exact q4.trans (sim_neg q1.q6 q1.wo hx hd)
    · subst e; exact q4.trans (sim_not q1.q6 q1.wo hc hx hd)
/-- least, most -/
theorem RW1.lst (h : RW1 u M r O P s L a) (ho : o = 15 ∨ o = 16) (hw : ruW u a = o - 1) (hw1 : ruW u (a + 1) = 36) (hlt : mI M r 5 < 40) (hk : mI M r 12 = k) (h12 : mI M' r 12 = (k : Int) + 1) (h5 : mI M' r 5 = mI M r 5 + 1) (h3 : mI M' r 3 = mI M r 3) (h4 : mI M' r 4 = mI M r 4) (h14 : mI M' r 14 = mI M r 14) (t1 : ∀ i, mI M' (r + 1) i = if i = k then o else mI M (r + 1) i) (t2 : ∀ i, mI M' (r + 2) i = if i = k then uP u a else mI M (r + 2) i) (t3 : ∀ i, mI M' (r + 3) i = if i = k then -1 else mI M (r + 3) i) (t4 : ∀ i, mI M' (r + 4) i = if i = k then 0 else mI M (r + 4) i) (t5 : mI M' (r + 5) = mI M (r + 5)) (hO : mI M' O = mI M O) (hP : mI M' P = mI M P) : RW1 u M' r O P s L (a + 2) := by
  obtain ⟨gs, od, mq, kn, ft, q1, q2, q3, q4⟩ := h
  have hl : k = gs.length := by have := q1.kl; omega
  subst hl
  have hd : slv (uZ u) + lvs (ops gs) < 40 := by rw [← q1.dp]; exact hlt
  have hc : cst o ≤ rsl (uQ u) (ops gs) := by rcases ho with e | e <;> subst e <;> exact Nat.zero_le _
  refine ⟨(o, a, a + 2) :: gs, -1 :: od, 0 :: mq, kn, ft, q1.push (by rw [h12, hk]) t1 t2 t3 t4 (by rw [t5]; exact q1.1.2.2.2.2) (by rw [h14]; exact q1.2.1.2) (q1.2.2.2.1.same h3 h4) (by rw [h5]; rcases ho with e | e <;> subst e <;> rfl) (by unfold opq; omega) hc, ?_, rfl, q4.trans (sim_list ho q1.q6 q1.wo (by omega) hw1 hd)⟩
  rw [hO, hP]
  exact q2.lst q3 ho hw hw1
/-- an operand that can't begin so -/
theorem RW1.no (h : RW1 u M r O P s L a) (hx : ¬ (ruW u a = 1 ∨ ruW u a = 2 ∨ ruW u a = 12 ∨ ruW u a = 13 ∨ ruW u a = 14 ∨ ruW u a = 15) ∧ (ruW u a = 25 ∨ ruW u a = 36 → ¬ mI M r 5 < 40) ∧ (ruW u a = 31 → ¬ (myd M r ∧ mI M r 5 < 40))) : Rf (ruW u) (uS u) (uK u) a := by
  obtain ⟨gs, od, mq, kn, ft, q1, q2, q3, q4⟩ := h
  refine q4.rf ?_
  obtain ⟨h1, h2, h3⟩ := hx
  rw [q1.dp] at h2 h3
  by_cases c1 : ruW u a = 25
  · exact sim_neg_no q1.q6 q1.wo c1 (h2 (Or.inl c1))
  · by_cases c2 : ruW u a = 36
    · exact sim_open_no q1.q6 q1.wo c2 (h2 (Or.inr c2))
    · by_cases c3 : ruW u a = 31
      · exact sim_not_no q1.q6 q1.wo c3 (fun q => h3 c3 ⟨q1.rsl3.mpr q.1, q.2⟩)
      · exact sim_no q1.q6 (by omega)
theorem RW1.lst_no (h : RW1 u M r O P s L a) (hw : ruW u a = 14 ∨ ruW u a = 15) (hx : ¬ (ruW u (a + 1) = 36 ∧ mI M r 5 < 40)) : Rf (ruW u) (uS u) (uK u) (a + 1) := by
  obtain ⟨gs, od, mq, kn, ft, q1, q2, q3, q4⟩ := h
  rw [q1.dp] at hx
  exact q4.rf (sim_list_no q1.q6 q1.wo hw hx)
/-- the latest operation -/
theorem RW0.cases (h : RW0 u M r O P s c c' L a) (hk : mI M r 12 = (k : Int) + 1) (ho : mI M (r + 1) k = o) : ∃ m x t od mq kn ft, t.length = k ∧ RWc u M r ((o, m, x) :: t) od mq kn ft ∧ OPq (ruW u) (uE u) (uP u) (mI M O) (mI M P) (uC u) (ruI u) s (uF u) c ((o, m, x) :: t) od mq kn ft L a ∧ Rc (ruW u) (uS u) (uK u) (gyR (uZ u) (uQ u) c' (o :: ops t)) a := by
  obtain ⟨gs, od, mq, kn, ft, q1, q2, q3⟩ := h
  cases gs with
  | nil =>
    have e : mI M r 12 = 0 := q1.kl
    omega
  | cons g t =>
    obtain ⟨o', m, x⟩ := g
    have hkl : mI M r 12 = ((t.length + 1 : Nat) : Int) := q1.kl
    have hop : mI M (r + 1) t.length = o' := by have := q1.1.1.1; rw [List.length_map] at this; exact this
    have e : t.length = k := by omega
    rw [e, ho] at hop
    subst hop
    exact ⟨m, x, t, od, mq, kn, ft, e, q1, q2, q3⟩
/-- '-' or '!' before an operand is grouped -/
theorem RW0.gun (h : RW0 u M r O P s c c' L a) (hk : mI M r 12 = (k : Int) + 1) (ho : mI M (r + 1) k = o) (ho2 : o = 40 ∨ o = 41) (hc : c ≤ rsq o) (hm : lwx (ruW u a) ≤ c' ∨ rsq o < lwx (ruW u a)) (h12 : mI M' r 12 = k) (h5 : mI M' r 5 = mI M r 5 - 1) (hkk : mI M r 14 = (kk : Int) + 1) (h14 : mI M' r 14 = (kk : Int) + 1) (hT : ∀ i, 1 ≤ i → i ≤ 4 → mI M' (r + i) = mI M (r + i)) (t5 : ∀ i : Nat, mI M' (r + 5) i = if i = kk then (if o = 41 then 1 else 0) else mI M (r + 5) i) (hF : Fqq M r (kft (mI M (r + 5) kk = if o = 41 then 1 else 0) (mI M (r + 2) k)) M') (hO : ∀ i, mI M' O i = if i = L then o else mI M O i) (hP : ∀ i, mI M' P i = if i = L then mI M (r + 2) k else mI M P i) : RW0 u M' r O P s (cst o) (pst o) (L + 1) a := by
  obtain ⟨m, x, t, od, mq, kn, ft, e, q1, q2, q3⟩ := h.cases hk ho
  subst e
  obtain ⟨od', mq', last, kn', e1, e2, e3, hl, g⟩ := q2.gpre ho2 hc
  subst e1 e2 e3
  obtain ⟨-, p2, -, -, -⟩ := q1.hd
  obtain ⟨k1, k2⟩ := q1.kn1
  have hkl : kk = kn'.length := by have : mI M r 14 = ((kn'.length + 1 : Nat) : Int) := q1.2.1.2; omega
  subst hkl
  rw [p2, k1] at hF
  rw [p2] at hP
  exact ⟨t, od', mq', _, _, q1.pop (by rw [h12, hk]; omega) (fun i i1 i4 j _ => by rw [hT i i1 i4]) (k2.put t5) (by rw [h14]; rfl) (hF ft q1.2.2.2.1) (by rw [h5]; rcases ho2 with e | e <;> subst e <;> rfl), g _ _ (fun i hi => ⟨by rw [hO, if_neg (by omega)], by rw [hP, if_neg (by omega)]⟩) (by rw [hO, if_pos rfl]) (by rw [hP, if_pos rfl]), q3.trans (sim_pop q1.q6 q1.wo (Or.inr (by omega)) hm)⟩
/-- a sign between two operands is grouped -/
theorem RW0.gbin (h : RW0 u M r O P s c c' L a) (hk : mI M r 12 = (k : Int) + 1) (ho : mI M (r + 1) k = o) (ho2 : 19 ≤ o ∧ o ≤ 29) (hc : c ≤ rsq o) (hm : lwx (ruW u a) ≤ c' ∨ rsq o < lwx (ruW u a)) (h12 : mI M' r 12 = k) (h5 : mI M' r 5 = mI M r 5) (hkk : mI M r 14 = (kk : Int) + 2) (h14 : mI M' r 14 = (kk : Int) + 1) (hT : ∀ i, 1 ≤ i → i ≤ 4 → mI M' (r + i) = mI M (r + i)) (t5 : ∀ i : Nat, mI M' (r + 5) i = if i = kk then (if o ≤ 24 then 1 else 0) else mI M (r + 5) i) (hF : Fqq M r (kft (okq (o - 1) (mI M (r + 5) kk) (mI M (r + 5) (kk + 1))) (mI M (r + 2) k)) M') (hO : ∀ i, mI M' O i = if i = L then o else mI M O i) (hP : ∀ i, mI M' P i = if i = L then mI M (r + 2) k else mI M P i) : RW0 u M' r O P s (cst o) (pst o) (L + 1) a := by
  obtain ⟨m, x, t, od, mq, kn, ft, e, q1, q2, q3⟩ := h.cases hk ho
  subst e
  obtain ⟨od', mq', last, left, kn', e1, e2, e3, hl, g⟩ := q2.gbin ho2 hc
  subst e1 e2 e3
  obtain ⟨-, p2, -, -, -⟩ := q1.hd
  obtain ⟨k1, k2, k3⟩ := q1.kn1
  have hkl : kk = kn'.length := by have : mI M r 14 = ((kn'.length + 2 : Nat) : Int) := q1.2.1.2; omega
  subst hkl
  have k1 : mI M (r + 5) (kn'.length + 1) = last := k1
  rw [p2, k1, k2] at hF
  rw [p2] at hP
  exact ⟨t, od', mq', _, _, q1.pop (by rw [h12, hk]; omega) (fun i i1 i4 j _ => by rw [hT i i1 i4]) (k3.put t5) (by rw [h14]; rfl) (hF ft q1.2.2.2.1) (by rw [h5, cdq0 (by omega)]; omega), g _ _ (fun i hi => ⟨by rw [hO, if_neg (by omega)], by rw [hP, if_neg (by omega)]⟩) (by rw [hO, if_pos rfl]) (by rw [hP, if_pos rfl]), q3.trans (sim_pop q1.q6 q1.wo (Or.inl (by omega)) hm)⟩
/-- '&' or '|' is grouped -/
theorem RW0.gjmp {dd : Nat} (h : RW0 u M r O P s c c' L a) (hk : mI M r 12 = (k : Int) + 1) (ho : mI M (r + 1) k = o) (ho2 : o = 30 ∨ o = 31) (hc : c ≤ rsq o) (hm : lwx (ruW u a) ≤ c' ∨ rsq o < lwx (ruW u a)) (h12 : mI M' r 12 = k) (h5 : mI M' r 5 = mI M r 5) (hkk : mI M r 14 = (kk : Int) + 2) (h14 : mI M' r 14 = (kk : Int) + 1) (hT : ∀ i, 1 ≤ i → i ≤ 4 → mI M' (r + i) = mI M (r + i)) (t5 : ∀ i : Nat, mI M' (r + 5) i = if i = kk then 1 else mI M (r + 5) i) (hF : Fqq M r (kft (okq (o - 1) (mI M (r + 5) kk) (mI M (r + 5) (kk + 1))) (mI M (r + 2) k)) M') (hd : mI M (r + 3) k = dd) (hO : ∀ i, mI M' O i = mI M O i) (hP : ∀ i, mI M' P i = if i = dd then (L : Int) else mI M P i) : RW0 u M' r O P s (cst o) (pst o) L a := by
  obtain ⟨m, x, t, od, mq, kn, ft, e, q1, q2, q3⟩ := h.cases hk ho
  subst e
  obtain ⟨d9, od', mq', last, left, kn', e1, e2, e3, hl, hdL, g⟩ := q2.gjmp ho2 hc
  subst e1 e2 e3
  obtain ⟨-, p2, p3, -, -⟩ := q1.hd
  obtain ⟨k1, k2, k3⟩ := q1.kn1
  have hkl : kk = kn'.length := by have : mI M r 14 = ((kn'.length + 2 : Nat) : Int) := q1.2.1.2; omega
  subst hkl
  have k1 : mI M (r + 5) (kn'.length + 1) = last := k1
  have hdd : dd = d9 := by rw [hd] at p3; omega
  subst hdd
  rw [p2, k1, k2] at hF
  exact ⟨t, od', mq', _, _, q1.pop (by rw [h12, hk]; omega) (fun i i1 i4 j _ => by rw [hT i i1 i4]) (k3.put t5) (by rw [h14]; rfl) (hF ft q1.2.2.2.1) (by rw [h5, cdq0 (by omega)]; omega), g _ _ (fun i hi => hO i) (fun i hi hn => by rw [hP, if_neg hn]) (by rw [hP, if_pos rfl]), q3.trans (sim_pop q1.q6 q1.wo (Or.inl (by omega)) hm)⟩
/-- '?' with its ':' is grouped -/
theorem RW0.gels {dd : Nat} (h : RW0 u M r O P s c c' L a) (hk : mI M r 12 = (k : Int) + 1) (ho : mI M (r + 1) k = 42) (hc : c ≤ 6) (hm : lwx (ruW u a) ≤ c') (h12 : mI M' r 12 = k) (h5 : mI M' r 5 = mI M r 5 - 1) (hkk : mI M r 14 = (kk : Int) + 1) (h14 : mI M' r 14 = (kk : Int) + 1) (hT : ∀ i, 1 ≤ i → i ≤ 4 → mI M' (r + i) = mI M (r + i)) (t5 : ∀ i : Nat, mI M' (r + 5) i = mI M (r + 5) i) (hF : Fqq M r (kft (mI M (r + 4) k = if mI M (r + 5) kk = 1 then 4 else 0) (mI M (r + 2) k)) M') (hd : mI M (r + 3) k = dd) (hO : ∀ i, mI M' O i = mI M O i) (hP : ∀ i, mI M' P i = if i = dd then (L : Int) else mI M P i) : RW0 u M' r O P s 6 6 L a := by
  obtain ⟨m, x, t, od, mq, kn, ft, e, q1, q2, q3⟩ := h.cases hk ho
  subst e
  obtain ⟨d9, od', k9, mq', last, kn', e1, e2, e3, hl, hdL, g⟩ := q2.gels hc
  subst e1 e2 e3
  obtain ⟨-, p2, p3, p4, -⟩ := q1.hd
  obtain ⟨k1, k2⟩ := q1.kn1
  have hkl : kk = kn'.length := by have : mI M r 14 = ((kn'.length + 1 : Nat) : Int) := q1.2.1.2; omega
  subst hkl
  have hdd : dd = d9 := by rw [hd] at p3; omega
  subst hdd
  rw [p2, p4, k1] at hF
  exact ⟨t, od', mq', last :: kn', _, q1.pop (by rw [h12, hk]; omega) (fun i i1 i4 j _ => by rw [hT i i1 i4]) (q1.1.2.2.2.2.cg (fun i _ => t5 i)) (by rw [h14]; rfl) (hF ft q1.2.2.2.1) (by rw [h5]; rfl), g _ _ (fun i hi => hO i) (fun i hi hn => by rw [hP, if_neg hn]) (by rw [hP, if_pos rfl]), q3.trans (sim_pop q1.q6 q1.wo (Or.inr (by omega)) (Or.inl hm))⟩
end RY
end
section
/-! The class's reader: signs, '?', ':' and what closes, over its piles in memory. -/
section RZ
variable {u : Ru} {M M' : mM} {r O P s c c' L a m x k kk : Nat} {gs t : List gqq} {od mq kn kn' : List Int} {ft ft' : Int × Int} {o d v : Int}
/-- how strong the operand behind the latest operation may be -/
def hrs (u : Ru) (M : mM) (r : Nat) (y : Nat) : Prop := (mI M r 12 = 0 ∧ uQ u = y) ∨ ∃ j : Nat, mI M r 12 = (j : Int) + 1 ∧ rsq (mI M (r + 1) j) = y
theorem RWc.rsl (h : RWc u M r gs od mq kn ft) : hrs u M r (rsl (uQ u) (ops gs)) := by
  cases gs with
  | nil => exact Or.inl ⟨h.kl, rfl⟩
  | cons g t =>
    obtain ⟨o, m, x⟩ := g
    have hkl : mI M r 12 = ((t.length + 1 : Nat) : Int) := h.kl
    have hop : mI M (r + 1) t.length = o := by have := h.1.1.1; rw [List.length_map] at this; exact this
    exact Or.inr ⟨t.length, by omega, by rw [hop]; rfl⟩
theorem hrs.eq {y y' : Nat} (h : hrs u M r y) (h' : hrs u M r y') : y = y' := by
  rcases h with ⟨h1, h2⟩ | ⟨j, h1, h2⟩ <;> rcases h' with ⟨g1, g2⟩ | ⟨i, g1, g2⟩
  · omega
  · omega
  · omega
  · have : i = j := by omega
    rw [this] at g2
    omega
theorem cst_x {o : Int} (ho : 19 ≤ o ∧ o ≤ 31) : cst o = lwx (o - 1) := by
  unfold cst lwx
  (repeat' split) <;> omega
/-- a sign between two operands, without an order -/
theorem RW0.sbin {y : Nat} (h : RW0 u M r O P s c c' L a) (ho : 19 ≤ o ∧ o ≤ 29) (hw : ruW u a = o - 1) (hc : c ≤ lsq o) (hm : c' < lwx (ruW u a)) (hy : hrs u M r y) (hr : lwx (ruW u a) ≤ y) (hk : mI M r 12 = k) (h12 : mI M' r 12 = (k : Int) + 1) (h5 : mI M' r 5 = mI M r 5) (h3 : mI M' r 3 = mI M r 3) (h4 : mI M' r 4 = mI M r 4) (h14 : mI M' r 14 = mI M r 14) (t1 : ∀ i, mI M' (r + 1) i = if i = k then o else mI M (r + 1) i) (t2 : ∀ i, mI M' (r + 2) i = if i = k then uP u a else mI M (r + 2) i) (t3 : ∀ i, mI M' (r + 3) i = if i = k then -1 else mI M (r + 3) i) (t4 : ∀ i, mI M' (r + 4) i = if i = k then 0 else mI M (r + 4) i) (t5 : mI M' (r + 5) = mI M (r + 5)) (hO : mI M' O = mI M O) (hP : mI M' P = mI M P) : RW1 u M' r O P s L (a + 1) := by
  obtain ⟨gs, od, mq, kn, ft, q1, q2, q3⟩ := h
  have hl : k = gs.length := by have := q1.kl; omega
  subst hl
  have er := hy.eq q1.rsl
  subst er
  have hcs : cst o = lwx (ruW u a) := by rw [hw]; exact cst_x (by omega)
  refine ⟨(o, a, a + 1) :: gs, -1 :: od, 0 :: mq, kn, ft, q1.push (by rw [h12, hk]) t1 t2 t3 t4 (by rw [t5]; exact q1.1.2.2.2.2) (by rw [h14]; exact q1.2.1.2) (q1.2.2.2.1.same h3 h4) (by rw [h5, cdq0 (by omega)]; omega) (by unfold opq; omega) (by rw [hcs]; exact hr), ?_, rfl, ?_⟩
  · rw [hO, hP]
    exact q2.sbin ho hw hc
  · have l5 : lwx (ruW u a) ≤ 5 := by rw [hw]; unfold lwx; (repeat' split) <;> omega
    have e := sim_sign (z := uZ u) (x := o - 1) q1.q6 hw (by rw [← hw]; omega) (by rw [← hw]; exact l5) (by rw [← hw]; exact hm) (by rw [← hw]; exact hr)
    rw [show o - 1 + 1 = o by omega] at e
    exact q3.trans e
/-- '&', '|' -/
theorem RW0.sjmp {y : Nat} (h : RW0 u M r O P s c c' L a) (ho : o = 30 ∨ o = 31) (hw : ruW u a = o - 1) (hc : c ≤ lsq o) (hm : c' < lwx (ruW u a)) (hy : hrs u M r y) (hr : lwx (ruW u a) ≤ y) (hk : mI M r 12 = k) (h12 : mI M' r 12 = (k : Int) + 1) (h5 : mI M' r 5 = mI M r 5) (h3 : mI M' r 3 = mI M r 3) (h4 : mI M' r 4 = mI M r 4) (h14 : mI M' r 14 = mI M r 14) (t1 : ∀ i, mI M' (r + 1) i = if i = k then o else mI M (r + 1) i) (t2 : ∀ i, mI M' (r + 2) i = if i = k then uP u a else mI M (r + 2) i) (t3 : ∀ i, mI M' (r + 3) i = if i = k then (L : Int) else mI M (r + 3) i) (t4 : ∀ i, mI M' (r + 4) i = if i = k then 0 else mI M (r + 4) i) (t5 : mI M' (r + 5) = mI M (r + 5)) (hO : ∀ i, mI M' O i = if i = L then o else mI M O i) (hP : ∀ i, i < L → mI M' P i = mI M P i) : RW1 u M' r O P s (L + 1) (a + 1) := by
  obtain ⟨gs, od, mq, kn, ft, q1, q2, q3⟩ := h
  have hl : k = gs.length := by have := q1.kl; omega
  subst hl
  have er := hy.eq q1.rsl
  subst er
  have hcs : cst o = lwx (ruW u a) := by rw [hw]; exact cst_x (by omega)
  refine ⟨(o, a, a + 1) :: gs, (L : Int) :: od, 0 :: mq, kn, ft, q1.push (by rw [h12, hk]) t1 t2 t3 t4 (by rw [t5]; exact q1.1.2.2.2.2) (by rw [h14]; exact q1.2.1.2) (q1.2.2.2.1.same h3 h4) (by rw [h5, cdq0 (by omega)]; omega) (by unfold opq; omega) (by rw [hcs]; exact hr), q2.sjmp ho hw hc (fun i hi => ⟨by rw [hO, if_neg (by omega)], hP i hi⟩) (by rw [hO, if_pos rfl]), rfl, ?_⟩
  have l5 : lwx (ruW u a) ≤ 5 := by rw [hw]; unfold lwx; (repeat' split) <;> omega
  have e := sim_sign (z := uZ u) (x := o - 1) q1.q6 hw (by rw [← hw]; omega) (by rw [← hw]; exact l5) (by rw [← hw]; exact hm) (by rw [← hw]; exact hr)
  rw [show o - 1 + 1 = o by omega] at e
  exact q3.trans e
/-- a second comparison -/
theorem RW0.dead (h : RW0 u M r O P s c c' L a) (hx : lwx (ruW u a) = 3) (hz : Rf (ruW u) (uZ u) a a) (hk : mI M r 12 = (k : Int) + 1) (ho : 19 ≤ mI M (r + 1) k ∧ mI M (r + 1) k ≤ 24) (hm : c' ≤ 2) : Rf (ruW u) (uS u) (uK u) a := by
  obtain ⟨m, x, t, od, mq, kn, ft, e, q1, q2, q3⟩ := h.cases hk rfl
  generalize mI M (r + 1) k = o at *
  have hwo : woq (uQ u) (o :: ops t) := q1.wo
  have h2 : rsq o = 2 := by unfold rsq; rw [if_neg (by omega), if_neg (by omega), if_pos ho]
  have h3 : cst o = 3 := by unfold cst; rw [if_neg (by omega), if_neg (by omega), if_pos (Or.inl ho)]
  have hp : pst o = 3 := by unfold pst; rw [if_neg (by omega)]; exact h3
  have s1 := sim_pop (w := ruW u) (k := a) (z := uZ u) (c := c') q1.q6 hwo (Or.inl (by omega)) (Or.inr (by rw [h2, hx]; omega))
  rw [hp] at s1
  have h33 : 3 ≤ rsl (uQ u) (ops t) := by have := hwo.2.1; rw [h3] at this; exact this
  exact (q3.trans s1).rf (sim_dead q1.q6 hx hz hwo.2.2 (by omega) h33)
/-- '?' -/
theorem RW0.ask (h : RW0 u M r O P s c c' L a) (hw : ruW u a = 32) (hc : c ≤ 5) (hm : c' ≤ 5) (hy : hrs u M r 6) (hlt : mI M r 5 < 40) (hk : mI M r 12 = k) (hkk : mI M r 14 = (kk : Int) + 1) (h12 : mI M' r 12 = (k : Int) + 1) (h5 : mI M' r 5 = mI M r 5 + 1) (h3 : mI M' r 3 = mI M r 3) (h4 : mI M' r 4 = mI M r 4) (h14 : mI M' r 14 = kk) (t1 : ∀ i, mI M' (r + 1) i = if i = k then 33 else mI M (r + 1) i) (t2 : ∀ i, mI M' (r + 2) i = if i = k then uP u a else mI M (r + 2) i) (t3 : ∀ i, mI M' (r + 3) i = if i = k then (L : Int) else mI M (r + 3) i) (t4 : ∀ i, mI M' (r + 4) i = if i = k then (if mI M (r + 5) kk = 1 then 0 else 1) else mI M (r + 4) i) (t5 : ∀ i, i < kk → mI M' (r + 5) i = mI M (r + 5) i) (hO : ∀ i, mI M' O i = if i = L then 33 else mI M O i) (hP : ∀ i, i < L → mI M' P i = mI M P i) : RW1 u M' r O P s (L + 1) (a + 1) := by
  obtain ⟨gs, od, mq, kn, ft, q1, q2, q3⟩ := h
  have hl : k = gs.length := by have := q1.kl; omega
  subst hl
  have er := hy.eq q1.rsl
  obtain ⟨last, kn', e1, e2, g⟩ := q2.sask (O' := mI M' O) (P' := mI M' P) hw hc (fun i hi => ⟨by rw [hO, if_neg (by omega)], hP i hi⟩) (by rw [hO, if_pos rfl])
  subst e1
  obtain ⟨k1, k2⟩ := q1.kn1
  have hkl : kk = kn'.length := by have : mI M r 14 = ((kn'.length + 1 : Nat) : Int) := q1.2.1.2; omega
  subst hkl
  rw [k1] at t4
  have hd : slv (uZ u) + lvs (ops gs) < 40 := by rw [← q1.dp]; exact hlt
  exact ⟨(33, a, a + 1) :: gs, (L : Int) :: od, _ :: mq, kn', ft, q1.push (by rw [h12, hk]) t1 t2 t3 t4 (k2.cg t5) h14 (q1.2.2.2.1.same h3 h4) (by rw [h5]; rfl) (by unfold opq; omega) (by rw [← er]; exact cst_le 33), g, rfl, q3.trans (sim_ask q1.q6 q1.wo er.symm hw hm hd)⟩
theorem RW0.ask_no (h : RW0 u M r O P s c c' L a) (hw : ruW u a = 32) (hm : c' ≤ 5) (hy : hrs u M r 6) (hlt : ¬ mI M r 5 < 40) : Rf (ruW u) (uS u) (uK u) a := by
  obtain ⟨gs, od, mq, kn, ft, q1, q2, q3⟩ := h
  have er := hy.eq q1.rsl
  rw [q1.dp] at hlt
  exact q3.rf (sim_ask_no q1.q6 q1.wo er.symm hw hm hlt)
/-- the rule is over -/
theorem RW0.over (h : RW0 u M r O P s c c' L a) (hk : mI M r 12 = 0) (hm : lwx (ruW u a) ≤ c' ∨ uQ u < lwx (ruW u a)) : Eo (ruW u) c (ruI u) a ∧ mI M (r + 5) 0 = kdq (ruW u) (uE u) 0 (ruI u) a ∧ FT M r (fst9 (uF u) (fl (ruW u) (uE u) (uP u) 0 (ruI u) a)) ∧ Cd (ruW u) (uC u) (uP u) (mI M O) (mI M P) 0 0 0 (ruI u) a s L ∧ mI M r 5 = slv (uZ u) ∧ Rc (ruW u) (uS u) (uK u) (uZ u) a := by
  obtain ⟨gs, od, mq, kn, ft, q1, q2, q3⟩ := h
  cases gs with
  | cons g t => have := q1.kl; rw [hk] at this; have e : ((t.length + 1 : Nat) : Int) = 0 := this.symm; omega
  | nil =>
    obtain ⟨a1, a2, a3, a4⟩ := q2.done
    subst a2 a3
    have dd := q1.dp
    refine ⟨a1, q1.1.2.2.2.2.1, q1.2.2.2.1, a4, ?_, q3.trans (sim_end q1.q6 hm)⟩
    rw [dd]
    show slv (uZ u) + ((0 : Nat) : Int) = _
    omega
/-- ')' behind '(' -/
theorem RW0.par (h : RW0 u M r O P s c c' L a) (hw : ruW u a = 37) (hc : c ≤ 6) (hk : mI M r 12 = (k : Int) + 1) (ho : mI M (r + 1) k = 37) (h12 : mI M' r 12 = k) (h5 : mI M' r 5 = mI M r 5 - 1) (h3 : mI M' r 3 = mI M r 3) (h4 : mI M' r 4 = mI M r 4) (h14 : mI M' r 14 = mI M r 14) (hT : ∀ i, 1 ≤ i → i ≤ 4 → mI M' (r + i) = mI M (r + i)) (t5 : mI M' (r + 5) = mI M (r + 5)) (hO : mI M' O = mI M O) (hP : mI M' P = mI M P) : RW0 u M' r O P s 0 0 L (a + 1) := by
  obtain ⟨m, x, t, od, mq, kn, ft, e, q1, q2, q3⟩ := h.cases hk ho
  subst e
  obtain ⟨od', mq', e1, e2, g⟩ := q2.cpar hc hw
  subst e1 e2
  have hl0 : lwx (ruW u a) = 0 := by rw [hw]; decide
  refine ⟨t, od', mq', kn, ft, q1.pop (by rw [h12, hk]; omega) (fun i i1 i4 j _ => by rw [hT i i1 i4]) (by rw [t5]; exact q1.1.2.2.2.2) (by rw [h14]; exact q1.2.1.2) (q1.2.2.2.1.same h3 h4) (by rw [h5]; rfl), by rw [hO, hP]; exact g, (q3.trans (sim_end (os := 37 :: ops t) q1.q6 (Or.inl (by omega)))).trans (sim_close (Or.inl rfl) hw)⟩
/-- ')' behind a list -/
theorem RW0.clos {L' : Nat} (h : RW0 u M r O P s c c' L a) (hw : ruW u a = 37) (hc : c ≤ 6) (hk : mI M r 12 = (k : Int) + 1) (ho : mI M (r + 1) k = o) (ho2 : o = 15 ∨ o = 16) (hkk : mI M r 14 = (kk : Int) + 1) (h12 : mI M' r 12 = k) (h5 : mI M' r 5 = mI M r 5 - 1) (h14 : mI M' r 14 = (kk : Int) + 1) (hT : ∀ i, 1 ≤ i → i ≤ 4 → ∀ j, j < k → mI M' (r + i) j = mI M (r + i) j) (t5 : ∀ i : Nat, mI M' (r + 5) i = if i = kk then 0 else mI M (r + 5) i) (hF : Fqq M r (kft (¬ (mI M (r + 4) k = 3 ∨ mI M (r + 5) kk = 1)) (mI M (r + 2) k)) M') (h0 : mI M (r + 4) k = 0 → L' = L ∧ mI M' O = mI M O ∧ mI M' P = mI M P) (h1 : mI M (r + 4) k ≠ 0 → L' = L + 1 ∧ (∀ i, mI M' O i = if i = L then o else mI M O i) ∧ (∀ i, mI M' P i = if i = L then mI M (r + 2) k else mI M P i)) : RW0 u M' r O P s 0 0 L' (a + 1) := by
  obtain ⟨m, x, t, od, mq, kn, ft, e, q1, q2, q3⟩ := h.cases hk ho
  subst e
  obtain ⟨od', k9, mq', last, kn', e1, e2, e3, hl, g⟩ := q2.clos ho2 hc hw
  subst e1 e2 e3
  obtain ⟨-, p2, -, p4, -⟩ := q1.hd
  obtain ⟨k1, k2⟩ := q1.kn1
  have hkl : kk = kn'.length := by have : mI M r 14 = ((kn'.length + 1 : Nat) : Int) := q1.2.1.2; omega
  subst hkl
  rw [p2, p4, k1] at hF
  rw [p4] at h0 h1
  rw [p2] at h1
  have hl0 : lwx (ruW u a) = 0 := by rw [hw]; decide
  refine ⟨t, od', mq', _, _, q1.pop (by rw [h12, hk]; omega) (fun i i1 i4 j hj => hT i i1 i4 j hj) (k2.put t5) (by rw [h14]; rfl) (hF ft q1.2.2.2.1) (by rw [h5]; rcases ho2 with e | e <;> subst e <;> rfl), g _ _ L' (fun i hi => ?_) (fun q => (h0 q).1) (fun q => ⟨(h1 q).1, by rw [(h1 q).2.1, if_pos rfl], by rw [(h1 q).2.2, if_pos rfl]⟩), (q3.trans (sim_end (os := o :: ops t) q1.q6 (Or.inl (by omega)))).trans (sim_close (Or.inr ho2) hw)⟩
  by_cases z : k9 = 0
  · rw [(h0 z).2.1, (h0 z).2.2]; exact ⟨rfl, rfl⟩
  · exact ⟨by rw [(h1 z).2.1, if_neg (by omega)], by rw [(h1 z).2.2, if_neg (by omega)]⟩
/-- ',' in a list -/
theorem RW0.comma {L' : Nat} (h : RW0 u M r O P s c c' L a) (hw : ruW u a = 35) (hc : c ≤ 6) (hk : mI M r 12 = (k : Int) + 1) (ho : mI M (r + 1) k = o) (ho2 : o = 15 ∨ o = 16) (hkk : mI M r 14 = (kk : Int) + 1) (h12 : mI M' r 12 = (k : Int) + 1) (h5 : mI M' r 5 = mI M r 5) (h3 : mI M' r 3 = mI M r 3) (h4 : mI M' r 4 = mI M r 4) (h14 : mI M' r 14 = kk) (hT : ∀ i, 1 ≤ i → i ≤ 3 → mI M' (r + i) = mI M (r + i)) (t4 : ∀ i, mI M' (r + 4) i = if i = k then (if mI M (r + 4) k = 3 ∨ mI M (r + 5) kk = 1 then 3 else 2) else mI M (r + 4) i) (t5 : ∀ i, i < kk → mI M' (r + 5) i = mI M (r + 5) i) (h0 : mI M (r + 4) k = 0 → L' = L ∧ mI M' O = mI M O ∧ mI M' P = mI M P) (h1 : mI M (r + 4) k ≠ 0 → L' = L + 1 ∧ (∀ i, mI M' O i = if i = L then o else mI M O i) ∧ (∀ i, mI M' P i = if i = L then mI M (r + 2) k else mI M P i)) : RW1 u M' r O P s L' (a + 1) := by
  obtain ⟨m, x, t, od, mq, kn, ft, e, q1, q2, q3⟩ := h.cases hk ho
  subst e
  obtain ⟨od', k9, mq', last, kn', e1, e2, e3, hl, g⟩ := q2.comma ho2 hc hw
  subst e1 e2 e3
  obtain ⟨p1, p2, p3, p4, -⟩ := q1.hd
  obtain ⟨k1, k2⟩ := q1.kn1
  have hkl : kk = kn'.length := by have : mI M r 14 = ((kn'.length + 1 : Nat) : Int) := q1.2.1.2; omega
  subst hkl
  rw [p4, k1] at t4
  rw [p4] at h0 h1
  rw [p2] at h1
  have hl0 : lwx (ruW u a) = 0 := by rw [hw]; decide
  refine ⟨(o, m, a + 1) :: t, -1 :: od', _ :: mq', kn', ft, q1.top (o' := o) (d' := -1) (x' := a + 1) (by rw [h12, hk]) (fun i => ?_) (fun i => by rw [hT 2 (by omega) (by omega)]) (fun i => ?_) t4 (k2.cg t5) h14 (q1.2.2.2.1.same h3 h4) h5 q1.wo.1 rfl rfl, g _ _ L' (fun i hi => ?_) (fun q => (h0 q).1) (fun q => ⟨(h1 q).1, by rw [(h1 q).2.1, if_pos rfl], by rw [(h1 q).2.2, if_pos rfl]⟩), rfl, (q3.trans (sim_end (os := o :: ops t) q1.q6 (Or.inl (by omega)))).trans (sim_comma ho2 hw)⟩
  · rw [hT 1 (by omega) (by omega)]
    split
    · rename_i y; rw [y]; exact p1
    · rfl
  · rw [hT 3 (by omega) (by omega)]
    split
    · rename_i y; rw [y]; exact p3
    · rfl
  · by_cases z : k9 = 0
    · rw [(h0 z).2.1, (h0 z).2.2]; exact ⟨rfl, rfl⟩
    · exact ⟨by rw [(h1 z).2.1, if_neg (by omega)], by rw [(h1 z).2.2, if_neg (by omega)]⟩
/-- ':' behind '?' -/
theorem RW0.colon {dd : Nat} (h : RW0 u M r O P s c c' L a) (hw : ruW u a = 33) (hc : c ≤ 6) (hk : mI M r 12 = (k : Int) + 1) (ho : mI M (r + 1) k = 33) (hkk : mI M r 14 = (kk : Int) + 1) (hd : mI M (r + 3) k = dd) (h12 : mI M' r 12 = (k : Int) + 1) (h5 : mI M' r 5 = mI M r 5) (h3 : mI M' r 3 = mI M r 3) (h4 : mI M' r 4 = mI M r 4) (h14 : mI M' r 14 = kk) (t1 : ∀ i, mI M' (r + 1) i = if i = k then 42 else mI M (r + 1) i) (t2 : mI M' (r + 2) = mI M (r + 2)) (t3 : ∀ i, mI M' (r + 3) i = if i = k then (L : Int) else mI M (r + 3) i) (t4 : ∀ i, mI M' (r + 4) i = if i = k then mI M (r + 4) k + (if mI M (r + 5) kk = 1 then 4 else 0) else mI M (r + 4) i) (t5 : ∀ i, i < kk → mI M' (r + 5) i = mI M (r + 5) i) (hO : ∀ i, mI M' O i = if i = L then 42 else mI M O i) (hP : ∀ i, i < L → mI M' P i = if i = dd then (L : Int) + 1 else mI M P i) : RW1 u M' r O P s (L + 1) (a + 1) := by
  obtain ⟨m, x, t, od, mq, kn, ft, e, q1, q2, q3⟩ := h.cases hk ho
  subst e
  obtain ⟨d9, od', k9, mq', last, kn', e1, e2, e3, hl, hdL, g⟩ := q2.colon hw hc
  subst e1 e2 e3
  obtain ⟨p1, p2, p3, p4, -⟩ := q1.hd
  obtain ⟨k1, k2⟩ := q1.kn1
  have hkl : kk = kn'.length := by have : mI M r 14 = ((kn'.length + 1 : Nat) : Int) := q1.2.1.2; omega
  subst hkl
  have hdd : dd = d9 := by rw [hd] at p3; omega
  subst hdd
  rw [p4, k1] at t4
  have hl0 : lwx (ruW u a) = 0 := by rw [hw]; decide
  exact ⟨(42, m, a + 1) :: t, (L : Int) :: od', _ :: mq', kn', ft, q1.top (o' := 42) (x' := a + 1) (by rw [h12, hk]) t1 (fun i => by rw [t2]) t3 t4 (k2.cg t5) h14 (q1.2.2.2.1.same h3 h4) h5 (by unfold opq; omega) rfl rfl, g _ _ (fun i hi => by rw [hO, if_neg (by omega)]) (fun i hi hn => by rw [hP i hi, if_neg hn]) (by rw [hO, if_pos rfl]) (by rw [hP dd hdL, if_pos rfl]), rfl, (q3.trans (sim_end (os := 33 :: ops t) q1.q6 (Or.inl (by omega)))).trans (sim_colon hw)⟩
/-- a word that neither goes on nor closes -/
theorem RW0.shut (h : RW0 u M r O P s c c' L a) (hk : mI M r 12 = (k : Int) + 1) (ho : mI M (r + 1) k = o) (ho2 : o = 37 ∨ o = 15 ∨ o = 16 ∨ o = 33) (hm : lwx (ruW u a) ≤ c' ∨ rsq o < lwx (ruW u a)) (h1 : o = 37 → ruW u a ≠ 37) (h2 : o = 15 ∨ o = 16 → ruW u a ≠ 37 ∧ ruW u a ≠ 35) (h3 : o = 33 → ruW u a ≠ 33) : Rf (ruW u) (uS u) (uK u) a := by
  obtain ⟨m, x, t, od, mq, kn, ft, e, q1, q2, q3⟩ := h.cases hk ho
  exact (q3.trans (sim_end (os := o :: ops t) q1.q6 hm)).rf (sim_close_no ho2 h1 h2 h3)
end RZ
end
section
/-! The class's reader: small steps, exactly. -/
/-- an operation is put on the pile -/
def pshE (M : mM) (r k : Nat) (o pl od mq dep kk : Int) (M' : mM) : Prop := (mI M' r 12 = (k : Int) + 1 ∧ mI M' r 5 = dep ∧ mI M' r 3 = mI M r 3 ∧ mI M' r 4 = mI M r 4 ∧ mI M' r 14 = kk) ∧ (∀ i, mI M' (r + 1) i = if i = k then o else mI M (r + 1) i) ∧ (∀ i, mI M' (r + 2) i = if i = k then pl else mI M (r + 2) i) ∧ (∀ i, mI M' (r + 3) i = if i = k then od else mI M (r + 3) i) ∧ (∀ i, mI M' (r + 4) i = if i = k then mq else mI M (r + 4) i) ∧ mI M' (r + 5) = mI M (r + 5)
section RX1
variable {G : mG} {d z r w T A B D N C n p O P K k a s L V F d0 c : Nat} {M0 M M' M1 M2 M110 M126 M133 : mM} {H H' : Nat → Nat} {ns : Nat → Int} {wt : Int}

theorem x_RR_note {x y : Int} (hx : i32 x) (hy : i32 y) (h : RB M z r w T A B D N C n p O P K) : Cv G y_RR_note d [vr r, vi x, vi y] M (fun M' => RB M' z r w T A B D N C n p O P K ∧ FI (fun b => b = r) M M' ∧ (∀ i, i ≠ 3 → i ≠ 4 → mI M' r i = mI M r i) ∧ (mI M r 3 = 0 → mI M' r 3 = x) ∧ (mI M r 3 ≠ 0 → mI M' r 3 = mI M r 3) ∧ (x ≠ 0 → Fqq M r (x, y) M')) := by
  refine k_RR_note h.1 hx hy ⟨h.2.1.1, fun e M5 e5 M7 e7 => ?_, fun e => ⟨h, FI.refl, fun _ _ _ => rfl, fun q => absurd q e, fun _ => rfl, fun x0 => Fq_note x0 (fun q => absurd q e) (fun _ => ⟨rfl, rfl⟩)⟩⟩
  obtain ⟨h5, -, g5, -⟩ := rb_fld h hx e5
  obtain ⟨h7, -, g7, -⟩ := rb_fld h5 hy e7
  have f5 : FI (fun b => b = r) M M5 := by rw [e5]; exact FI.ui rfl
  have f7 : FI (fun b => b = r) M5 M7 := by rw [e7]; exact FI.ui rfl
  exact ⟨h7, f5.trans f7, fun i i3 i4 => by rw [g7, if_neg i4, g5, if_neg i3], fun _ => by rw [g7, if_neg (by decide), g5, if_pos rfl], fun q => absurd e q, fun x0 => Fq_note x0 (fun _ => ⟨by rw [g7, if_neg (by decide), g5, if_pos rfl], by rw [g7, if_pos rfl]⟩) (fun q => absurd e q)⟩

theorem x_RR_popKind {c : Nat} (h : RB M z r w T A B D N C n p O P K) (hc : mI M r 14 = ((c + 1 : Nat) : Int)) (h3 : c < 336) : Ci G y_RR_popKind d [vr r] M (fun v M' => ((v = 0 ∨ v = 1) ∧ ((mI M (r + 5) c = 0 ∨ mI M (r + 5) c = 1) → v = mI M (r + 5) c)) ∧ RB M' z r w T A B D N C n p O P K ∧ FI (fun b => b = r) M M' ∧ (∀ i, mI M' r i = if i = 14 then (c : Int) else mI M r i)) := by
  obtain ⟨hO, hK, -⟩ := id h
  obtain ⟨k0, ⟨-, -, -, -, q13, -⟩, ⟨-, -, -, -, k5, -⟩, ⟨-, -, -, -, n5, -⟩⟩ := id hK
  refine k_RR_popKind hO ⟨k0, fun y => ?_, fun v e M9 e9 => ?_⟩
  · have o' : mOk (mUI M r 14 ((mI M r 14) - 1)) := mOk_UI hO ⟨by omega, by omega⟩
    refine ⟨⟨by omega, by omega⟩, ?_⟩
    rw [q13, mK_UI, mN_UI, n5]
    exact ⟨k5, by omega, (o' _ _).1⟩
  · rw [if_neg (by omega), hc, show ((c + 1 : Nat) : Int) - 1 = (c : Int) by omega] at e9
    rw [q13, hc, show ((c + 1 : Nat) : Int) - 1 = (c : Int) by omega, Int.toNat_natCast] at e
    have ev : mI (mUI M r 14 (c : Int)) (r + 5) c = mI M (r + 5) c := by rw [mI_UI, if_neg (by omega)]
    rw [ev] at e
    obtain ⟨h9, -, g9, -⟩ := rb_fld h ⟨by omega, by omega⟩ e9
    refine ⟨h9.1, ⟨by rw [e]; split <;> omega, fun q => by rw [e]; split <;> omega⟩, h9, by rw [e9]; exact FI.ui rfl, g9⟩

theorem x_RR_takeValue {o x t : Int} (ho : i32 o) (hx : i32 x) (ht : t = 0 ∨ t = 1) (h : RB M z r w T A B D N C n p O P K) (g : RG M r p O P n s V F ns d0 H L k a 1) (han : a < n) (hs : ∀ H' : Nat → Nat, H' (L + 1) = H' L + 1 → stO V F ns H' L o x) (hj : ¬ jm o) : Ci G y_RR_takeValue (d + 1) [vr r, vi o, vi x, vi t] M (fun y M' => ((∀ i, 1 ≤ i → i ≤ 4 → mI M' (r + i) = mI M (r + i)) ∧ mI M' r 14 = mI M r 14 + 1 ∧ (∀ (c : Nat), mI M r 14 = c → ∀ i, mI M' (r + 5) i = if i = c then t else mI M (r + 5) i) ∧ (∀ i, mI M' O i = if i = L then o else mI M O i) ∧ (∀ i, mI M' P i = if i = L then x else mI M P i)) ∧ y = 0 ∧ RB M' z r w T A B D N C n p O P K ∧ FI (rdS r p O P) M M' ∧ (∀ i, i ≠ 2 → i ≠ 7 → i ≠ 14 → mI M' r i = mI M r i) ∧ (∀ i, 6 ≤ i → i ≤ 9 → mI M' (r + i) = mI M (r + i)) ∧ (∀ i, i ≠ 2 → mI M' p i = mI M p i) ∧ (∀ i, i ≠ L → mI M' O i = mI M O i ∧ mI M' P i = mI M P i) ∧ ∃ H', RG M' r p O P n s V F ns d0 H' (L + 1) k (a + 1) 0 ∧ ∀ i, i ≤ L → H' i = H i) := by
  have rm := g.room
  obtain ⟨oO, oP, op, e1, e2, e3⟩ := h.off
  have hW := h.2.2.2.1
  have hwN := hW.2.2.1
  have hN := hW.1.2.2.2.2.2.2.1
  obtain ⟨⟨g1, g2, g3, g4⟩, gw, ⟨ga, gs⟩, gc, ⟨gd, gd4⟩, gr, ge, ⟨gH, gHs⟩, gC, gL, gt⟩ := g
  have hPK := h.2.2.2.2.1
  have hK := h.2.2.2.2.2.2
  refine k_RR_takeValue h.1 ho hx (i32s (by omega) (by omega)) ?_
  rw [h.2.2.1.2]
  refine ⟨h.2.1.1, hPK.1, (s_Pr_add ho hx h.1 hPK g4 (by omega)).mono (fun y M3 q => ?_)⟩
  obtain ⟨ey, o3, f3, p3, q3, u3⟩ := q
  have f3' : FI (rdS r p O P) M M3 := f3.mono (fun b q => Or.inr q)
  have h3 := h.fi o3 f3'
  have nr : ∀ b, r ≤ b → b ≤ r + 9 → mI M3 b = mI M b := fun b b1 b2 => f3.2.2.2.2.2.2 b (fun q => by
    have q' : b = p ∨ b = O ∨ b = P := q
    first | exact off3 op oO oP (by assumption) (by assumption) q' | omega)
  refine ⟨⟨by omega, by omega⟩, o3, h3.2.1.1, (s_RR_pushKind (c := uw 1 + skk M r k) ht h3 (by rw [nr r (by omega) (by omega)]; exact gc) (by omega)).mono (fun M7 q => ?_)⟩
  obtain ⟨h7, f7, r7, t7⟩ := q
  have nr7 : ∀ b, b ≠ r → b ≠ r + 5 → mI M7 b = mI M3 b := fun b b1 b2 => f7.2.2.2.2.2.2 b (fun q => by
    have q' : b = r ∨ b = r + 5 := q
    first | exact rin5 q' | exact nin5 (by assumption) (by assumption) q' | omega)
  refine ⟨h7.1, h7.2.1.1, fun M11 e11 => ?_⟩
  obtain ⟨h11, f11, r11, n11⟩ := rb_fld h7 (v := 0) (i32s (by omega) (by omega)) e11
  have a11 : mI M11 r 2 = a := by rw [r11, if_neg (by decide), r7, if_neg (by decide), nr r (by omega) (by omega), g1]
  rw [a11]
  refine ⟨⟨by omega, by omega⟩, fun M14 e14 => ?_⟩
  obtain ⟨h14, f14, r14, n14⟩ := rb_fld h11 ⟨by omega, by omega⟩ e14
  have R14 : ∀ i, mI M14 r i = if i = 2 then (a : Int) + 1 else if i = 7 then 0 else if i = 14 then ((uw 1 + skk M r k : Nat) : Int) + 1 else mI M r i := fun i => by
    rw [r14]
    by_cases y2 : i = 2
    · rw [if_pos y2, if_pos y2]
    · rw [if_neg y2, if_neg y2, r11]
      by_cases y7 : i = 7
      · rw [if_pos y7, if_pos y7]
      · rw [if_neg y7, if_neg y7, r7, nr r (by omega) (by omega)]
  have X14 : ∀ b, b ≠ r → b ≠ r + 5 → mI M14 b = mI M3 b := fun b b1 b2 => by rw [n14 b b1, n11 b b1, nr7 b b1 b2]
  have T14 : ∀ i, 1 ≤ i → i ≤ 9 → i ≠ 5 → mI M14 (r + i) = mI M (r + i) := fun i i1 i9 i5 => by rw [X14 (r + i) (by omega) (by omega), nr (r + i) (by omega) (by omega)]
  have f57 : FI (rdS r p O P) M3 M7 := f7.mono (fun b q => Or.inl (by have q' : b = r ∨ b = r + 5 := q; first | exact rin5 q' | exact nin5 (by assumption) (by assumption) q' | omega))
  have fi : FI (rdS r p O P) M M14 := ((f3'.trans f57).trans f11).trans f14
  refine ⟨⟨fun i i1 i4 => T14 i i1 (by omega) (by omega), by rw [R14, if_neg (by decide), if_neg (by decide), if_pos rfl, gc], fun c9 hc9 i => by rw [n14 (r + 5) (by omega), n11 (r + 5) (by omega), t7, nr (r + 5) (by omega) (by omega), show c9 = uw 1 + skk M r k by omega], fun i => by rw [X14 O (by first | exact oO | exact off0 oO | exact off9 oO (by decide) | exact off4 oO | exact e1 | exact e3 | omega) (by first | exact oO | exact off0 oO | exact off9 oO (by decide) | exact off4 oO | exact e1 | exact e3 | omega), q3], fun i => by rw [X14 P (by first | exact oP | exact off0 oP | exact off9 oP (by decide) | exact off4 oP | exact e2 | exact fun q => e3 q.symm | omega) (by first | exact oP | exact off0 oP | exact off9 oP (by decide) | exact off4 oP | exact e2 | exact fun q => e3 q.symm | omega), u3]⟩, rfl, h14, fi, fun i i2 i7 i14 => by rw [R14, if_neg i2, if_neg i7, if_neg i14], fun i i6 i9 => T14 i (by omega) i9 (by omega), fun i i2 => by rw [X14 p (by first | exact op | exact off0 op | exact off9 op (by decide) | exact off4 op | exact fun q => e1 q.symm | exact fun q => e2 q.symm | omega) (by first | exact op | exact off0 op | exact off9 op (by decide) | exact off4 op | exact fun q => e1 q.symm | exact fun q => e2 q.symm | omega), p3, if_neg i2], fun i iL => ⟨by rw [X14 O (by first | exact oO | exact off0 oO | exact off9 oO (by decide) | exact off4 oO | exact e1 | exact e3 | omega) (by first | exact oO | exact off0 oO | exact off9 oO (by decide) | exact off4 oO | exact e1 | exact e3 | omega), q3, if_neg iL], by rw [X14 P (by first | exact oP | exact off0 oP | exact off9 oP (by decide) | exact off4 oP | exact e2 | exact fun q => e3 q.symm | omega) (by first | exact oP | exact off0 oP | exact off9 oP (by decide) | exact off4 oP | exact e2 | exact fun q => e3 q.symm | omega), u3, if_neg iL]⟩, ?_⟩
  obtain ⟨H', hH'⟩ : ∃ H' : Nat → Nat, ∀ i, H' i = if i = L + 1 then H L + 1 else H i := ⟨fun i => if i = L + 1 then H L + 1 else H i, fun _ => rfl⟩
  have hHs : ∀ i, i ≤ L → H' i = H i := fun i hi => by rw [hH', if_neg (by omega)]
  have hHL : H' (L + 1) = H' L + 1 := by rw [hH', if_pos rfl, hHs L (Nat.le_refl _)]
  have sm := fun i hi => sums_cg (M := M) (M' := M14) (r := r) (k := k) (fun j _ => by rw [T14 1 (by omega) (by omega) (by omega)]) (fun j _ => by rw [T14 4 (by omega) (by omega) (by omega)]) i hi
  have u1 : uw 1 = 0 := rfl
  have u0 : uw 0 = 1 := rfl
  refine ⟨H', ⟨⟨by rw [R14, if_pos rfl]; omega, by rw [R14, if_neg (by decide), if_neg (by decide), if_neg (by decide)]; exact g2, by rw [R14, if_neg (by decide), if_pos rfl], by rw [X14 p (by first | exact op | exact off0 op | exact off9 op (by decide) | exact off4 op | exact fun q => e1 q.symm | exact fun q => e2 q.symm | omega) (by first | exact op | exact off0 op | exact off9 op (by decide) | exact off4 op | exact fun q => e1 q.symm | exact fun q => e2 q.symm | omega), p3, if_pos rfl]; omega⟩, Or.inl rfl, ⟨by omega, by omega⟩, by rw [R14, if_neg (by decide), if_neg (by decide), if_pos rfl, (sm k (Nat.le_refl _)).2.1]; omega, ⟨by rw [R14, if_neg (by decide), if_neg (by decide), if_neg (by decide), (sm k (Nat.le_refl _)).2.2.2]; exact gd, by rw [(sm k (Nat.le_refl _)).2.2.2]; exact gd4⟩, fun i hi => by rw [(sm (i + 1) (by omega)).2.2.2, T14 1 (by omega) (by omega) (by omega)]; exact gr i hi, fun i hi => ?_, ⟨?_, ?_⟩, ?_, by rw [(sm k (Nat.le_refl _)).2.2.1]; omega, fun j => ?_⟩, hHs⟩
  · exact (ge i hi).cg (fun j _ => by rw [T14 1 (by omega) (by omega) (by omega)]) (by rw [T14 2 (by omega) (by omega) (by omega)]) (by rw [T14 3 (by omega) (by omega) (by omega)]) (fun j _ => by rw [T14 4 (by omega) (by omega) (by omega)]) (by omega) (fun j hj => by rw [X14 O (by first | exact oO | exact off0 oO | exact off9 oO (by decide) | exact off4 oO | exact e1 | exact e3 | omega) (by first | exact oO | exact off0 oO | exact off9 oO (by decide) | exact off4 oO | exact e1 | exact e3 | omega), q3, if_neg (by omega)]) hHs
  · rw [hHL, hHs L (Nat.le_refl _), gH, (sm k (Nat.le_refl _)).1]
    omega
  · rw [hHL, hHs L (Nat.le_refl _)]
    omega
  · exact gC.add gs hHs gHs (fun i => by rw [X14 O (by first | exact oO | exact off0 oO | exact off9 oO (by decide) | exact off4 oO | exact e1 | exact e3 | omega) (by first | exact oO | exact off0 oO | exact off9 oO (by decide) | exact off4 oO | exact e1 | exact e3 | omega), q3]) (fun i => by rw [X14 P (by first | exact oP | exact off0 oP | exact off9 oP (by decide) | exact off4 oP | exact e2 | exact fun q => e3 q.symm | omega) (by first | exact oP | exact off0 oP | exact off9 oP (by decide) | exact off4 oP | exact e2 | exact fun q => e3 q.symm | omega), u3]) (fun i _ q => pdg_cg q (Nat.le_refl _) (fun j _ => by rw [T14 1 (by omega) (by omega) (by omega)]) (fun j _ => by rw [T14 3 (by omega) (by omega) (by omega)])) (hs H' hHL) (fun q => absurd q hj)
  · rw [n14 (r + 5) (by omega), n11 (r + 5) (by omega), t7, nr (r + 5) (by omega) (by omega)]
    split
    · exact ht
    · exact gt j

theorem x_RR_mayDeny (h : RB M z r w T A B D N C n p O P K) (hk : mI M r 12 = k) (hk3 : k ≤ 336) : Ci G y_RR_mayDeny (d + 1) [vr r] M (fun x M' => M' = M ∧ (x = 0 ∨ x = 1) ∧ (x ≠ 0 ↔ myd M r)) := by
  obtain ⟨-, ⟨k0, ⟨q8, -⟩, ⟨k1, -⟩, ⟨n1, -⟩⟩, -⟩ := id h
  refine k_RR_mayDeny h.1 ⟨k0, fun y => ⟨rfl, Or.inr rfl, fun _ => Or.inl y, fun _ => by omega⟩, fun y => ?_⟩
  rw [q8, n1]
  refine ⟨k1, by omega, (s_RR_level (h.1 _ _).1 h.1).mono (fun x M2 q => ?_)⟩
  obtain ⟨e2, ex⟩ := q
  subst e2
  have ek : ((mI M2 r 12) - 1).toNat = k - 1 := by omega
  rw [ek] at ex ⊢
  have := lvl_b (mI M2 (r + 1) (k - 1))
  have key : myd M2 r ↔ (lvl (mI M2 (r + 1) (k - 1)) < 4 ∧ mI M2 (r + 1) (k - 1) ≠ 40) := by
    constructor
    · intro q
      rcases q with q | ⟨j, j1, j2, j3⟩
      · exact absurd q y
      · have : j = k - 1 := by omega
        rw [this] at j2 j3
        exact ⟨j2, j3⟩
    · intro q
      exact Or.inr ⟨k - 1, by omega, q.1, q.2⟩
  rw [key]
  refine ⟨i32s (by omega) (by omega), h.1, fun v e => ⟨rfl, by rw [e]; split <;> omega, ?_⟩⟩
  rw [e]
  split
  · exact ⟨fun q => absurd rfl q, fun q => by omega⟩
  · exact ⟨fun _ => by omega, fun _ => by omega⟩
theorem gp_c9 {o : Int} (h : o = 37 ∨ o = 40 ∨ o = 41 ∨ o = 15 ∨ o = 16) : cdp o = 1 := by unfold cdp; split <;> omega
theorem x_RR_takeLevel {o pl : Int} (h : RB M z r w T A B D N C n p O P K) (g : RG M r p O P n s V F ns d0 H L k a 1) (ho : o = 37 ∨ o = 40 ∨ o = 41 ∨ o = 15 ∨ o = 16) (hpl : 0 ≤ pl ∧ pl ≤ 16384) (han : a < n) : Ci G y_RR_takeLevel (d + 1) [vr r, vi o, vi pl] M (fun x M' => lvQ M z r w T A B D N C n p O P K s V F ns d0 H L k a x M' ∧ ((x = 2 ∧ ¬ mI M r 5 < 40) ∨ (x = 0 ∧ mI M r 5 < 40 ∧ pshE M r k o pl (-1) 0 (mI M r 5 + 1) (mI M r 14) M'))) := by
  have rm := g.room
  obtain ⟨oO, oP, op, e1, e2, e3⟩ := h.off
  have hwN := h.2.2.2.1.2.2.1
  have hN := h.2.2.2.1.1.2.2.2.2.2.2.1
  obtain ⟨⟨g1, g2, g3, g4⟩, -, -, -, ⟨gd, gd4⟩, -⟩ := id g
  refine k_RR_takeLevel h.1 (i32s (by omega) (by omega)) (i32s (by omega) (by omega)) ⟨h.2.1.1, fun y => ⟨⟨by omega, by omega⟩, fun M5 e5 => ?_⟩, fun y => ⟨⟨h, FI.refl, fun _ _ _ _ _ => rfl, fun _ _ _ => rfl, ⟨rfl, rfl, rfl⟩, Or.inl ⟨rfl, rfl⟩⟩, Or.inl ⟨rfl, by omega⟩⟩⟩
  obtain ⟨h5, f5, r5, n5⟩ := rb_fld h ⟨by omega, by omega⟩ e5
  refine (s_RR_push (k := k) (a := a) (i32s (by omega) (by omega)) (i32s (by omega) (by omega)) (i32s (by omega) (by omega)) h5 (by rw [r5, if_neg (by decide)]; exact g2) (by omega) (by rw [r5, if_neg (by decide)]; exact g1) (by omega)).mono (fun M7 q => ?_)
  obtain ⟨h7, f7, r7, t1, t2, t3, t4⟩ := q
  have o7 : ∀ b, (b < r ∨ r + 4 < b) → mI M7 b = mI M b := fun b hb => by
    rw [f7.2.2.2.2.2.2 b (fun q => by have q' : r ≤ b ∧ b ≤ r + 4 := q; omega), n5 b (by omega)]
  have R7 : ∀ i, mI M7 r i = if i = 2 then (a : Int) + 1 else if i = 7 then 1 else if i = 12 then (k : Int) + 1 else if i = 5 then ((d0 + sdp M r k + 1 : Nat) : Int) else mI M r i := fun i => by
    rw [r7, r5]
    by_cases y5 : i = 5
    · subst y5
      rw [if_neg (by decide), if_neg (by decide), if_neg (by decide), if_pos rfl, if_neg (by decide), if_neg (by decide), if_neg (by decide), if_pos rfl, gd]
      omega
    · rw [if_neg y5, if_neg y5]
  have cd : cdp o = 1 := gp_c9 ho
  have f57 : FI (rdS r p O P) M5 M7 := f7.mono (fun b q => Or.inl (by have q' : r ≤ b ∧ b ≤ r + 4 := q; omega))
  have s7 : ∀ i, i ≠ 2 → i ≠ 5 → i ≠ 7 → i ≠ 12 → mI M7 r i = mI M r i := fun i i2 i5 i7 i12 => by rw [R7, if_neg i2, if_neg i7, if_neg i12, if_neg i5]
  refine ⟨h7.1, ⟨h7, f5.trans f57, fun i i2 i5 i7 i12 => by rw [R7, if_neg i2, if_neg i7, if_neg i12, if_neg i5], fun i i5 i9 => o7 (r + i) (by omega), ⟨o7 p (by first | exact op | exact off0 op | exact off9 op (by decide) | exact off4 op | exact fun q => e1 q.symm | exact fun q => e2 q.symm | omega), o7 O (by first | exact oO | exact off0 oO | exact off9 oO (by decide) | exact off4 oO | exact e1 | exact e3 | omega), o7 P (by first | exact oP | exact off0 oP | exact off9 oP (by decide) | exact off4 oP | exact e2 | exact fun q => e3 q.symm | omega)⟩, Or.inr ⟨rfl, ?_⟩⟩, Or.inr ⟨rfl, by omega, ⟨by rw [R7, if_neg (by decide), if_neg (by decide), if_pos rfl], by rw [R7, if_neg (by decide), if_neg (by decide), if_neg (by decide), if_pos rfl, gd]; omega, s7 3 (by decide) (by decide) (by decide) (by decide), s7 4 (by decide) (by decide) (by decide) (by decide), s7 14 (by decide) (by decide) (by decide) (by decide)⟩, fun i => by rw [t1, n5 (r + 1) (by omega)], fun i => by rw [t2, n5 (r + 2) (by omega)], fun i => by rw [t3, n5 (r + 3) (by omega)], fun i => by rw [t4, n5 (r + 4) (by omega)], o7 _ (by omega)⟩⟩
  exact g.psh (o := o) (pl := pl) (dd := d0 + sdp M r k + 1) R7 (fun i => by rw [t1, n5 (r + 1) (by omega)]) (fun i => by rw [t2, n5 (r + 2) (by omega)]) (fun i => by rw [t3, n5 (r + 3) (by omega)]) (fun i => by rw [t4, n5 (r + 4) (by omega)]) (o7 _ (by omega)) (o7 p (by first | exact op | exact off0 op | exact off9 op (by decide) | exact off4 op | exact fun q => e1 q.symm | exact fun q => e2 q.symm | omega)) (o7 O (by first | exact oO | exact off0 oO | exact off9 oO (by decide) | exact off4 oO | exact e1 | exact e3 | omega)) (o7 P (by first | exact oP | exact off0 oP | exact off9 oP (by decide) | exact off4 oP | exact e2 | exact fun q => e3 q.symm | omega)) (by unfold opn; omega) (by unfold jm; omega) hpl (by rw [cd]) (by omega) (g.lvl (Or.inl cd)) (by show 0 = ckk o; unfold ckk; split <;> omega) (by show 0 = cm o 0; unfold cm; (repeat' split) <;> omega) han

end RX1
end
section
/-! The class's reader: an operation is grouped, exactly. -/
/-- what grouping does to the piles: tv the kind that comes, v9 the fault that is noted -/
def gE (M0 : mM) (r p O P k L : Nat) (tv : Int) (v9 : Int × Int) (M' : mM) : Prop :=
  (mI M' r 12 = k ∧ mI M' r 5 = mI M0 r 5 - cdp (mI M0 (r + 1) k) ∧ mI M' r 14 = ((1 + skk M0 r k : Nat) : Int)) ∧ (∀ i, 1 ≤ i → i ≤ 4 → mI M' (r + i) = mI M0 (r + i)) ∧ (∀ i, mI M' (r + 5) i = if i = skk M0 r k then tv else mI M0 (r + 5) i) ∧ Fqq M0 r v9 M' ∧ (¬ jm (mI M0 (r + 1) k) → (∀ i, mI M' O i = if i = L then mI M0 (r + 1) k else mI M0 O i) ∧ (∀ i, mI M' P i = if i = L then mI M0 (r + 2) k else mI M0 P i) ∧ mI M' p 2 = (L : Int) + 1) ∧ (jm (mI M0 (r + 1) k) → ∃ t : Nat, mI M0 (r + 3) k = t ∧ (∀ i, mI M' O i = mI M0 O i) ∧ (∀ i, mI M' P i = if i = t then (L : Int) else mI M0 P i) ∧ mI M' p 2 = L)
/-- the kind that grouping leaves -/
def gtv (o last : Int) : Int := if o = 40 then 0 else if o = 42 then last else if o = 41 ∨ o ≤ 24 ∨ o = 30 ∨ o = 31 then 1 else 0
/-- whether the kinds fit -/
def gft (o mk left last : Int) : Prop := if o = 40 then last = 0 else if o = 41 then last = 1 else if o = 42 then mk = (if last = 1 then 4 else 0) else okq (o - 1) left last
theorem gp_i {o : Int} (ho : grpO o) : i32 o := by unfold grpO at ho; exact i32s (by omega) (by omega)
theorem gp_y {o : Int} (y : o = 40 ∨ o = 41 ∨ o = 42) : cdp o = 1 := by unfold cdp; split <;> omega
theorem gp_z {o : Int} (ho : grpO o) (y : ¬ (o = 40 ∨ o = 41 ∨ o = 42)) : cdp o = 0 := by unfold grpO at ho; unfold cdp; split <;> omega
theorem gp_n {o : Int} (ho : grpO o) (nj : ¬ jm o) : (19 ≤ o ∧ o ≤ 29) ∨ o = 40 ∨ o = 41 := by unfold grpO at ho; unfold jm at nj; omega
theorem gp_3 {o : Int} (ho : grpO o) : o ≠ 33 := by unfold grpO at ho; omega
theorem gp_r {o : Int} (ho : grpO o) (y1 : ¬ (o = 40 ∨ o = 41)) (y2 : ¬ o = 42) : 19 ≤ o ∧ o ≤ 31 := by unfold grpO at ho; omega
theorem gp_j {o : Int} (y : o = 40 ∨ o = 41) : ¬ jm o := by unfold jm; omega
theorem gp_k {o : Int} (y : o = 40 ∨ o = 41) : ¬ (19 ≤ o ∧ o ≤ 31) := by omega
theorem gp_d {o : Int} (y : o = 40 ∨ o = 41) : o = 15 ∨ o = 16 ∨ o = 33 ∨ o = 37 ∨ o = 40 ∨ o = 41 ∨ o = 42 := y.elim (fun e => Or.inr (Or.inr (Or.inr (Or.inr (Or.inl e))))) (fun e => Or.inr (Or.inr (Or.inr (Or.inr (Or.inr (Or.inl e))))))
theorem gp_e {o : Int} (h : 19 ≤ o ∧ o ≤ 31) : ¬ (o = 15 ∨ o = 16 ∨ o = 33 ∨ o = 37 ∨ o = 40 ∨ o = 41 ∨ o = 42) := by omega
theorem gp_v {o x : Int} (y : o = 40 ∨ o = 41) : gtv o x = if o = 41 then 1 else 0 := by unfold gtv; (repeat' split) <;> omega
theorem gp_jm {o : Int} (y : o = 30 ∨ o = 31) : jm o := y.elim (fun e => Or.inl e) (fun e => Or.inr (Or.inl e))
theorem gp_nj {o : Int} (h : 19 ≤ o ∧ o ≤ 31) (y : ¬ (o = 30 ∨ o = 31)) : ¬ jm o := by unfold jm; omega
section RX2
variable {G : mG} {d z r w T A B D N C n p O P K k a s L V F d0 c : Nat} {M0 M M' M1 M2 M110 M126 M133 : mM} {H H' : Nat → Nat} {ns : Nat → Int} {wt : Int}

theorem Fqq.two {r : Nat} {v v' : Int × Int} (h : Fqq M r v M1) (h' : Fqq M1 r v' M2) (e : v.1 = 0) : Fqq M r v' M2 := fun ft hf => by
  have a := h ft hf
  have b := h' _ a
  by_cases z : ft.1 = 0
  · have e1 : fst9 ft v = v := if_pos z
    have e2 : fst9 ft v' = v' := if_pos z
    rw [e1] at b
    rw [e2]
    have e3 : fst9 v v' = v' := if_pos e
    rw [e3] at b
    exact b
  · have e1 : fst9 ft v = ft := if_neg z
    rw [e1] at b
    exact b
theorem Fqq.later {r : Nat} {v : Int × Int} (h : Fqq M r v M1) (h3 : mI M2 r 3 = mI M1 r 3) (h4 : mI M2 r 4 = mI M1 r 4) : Fqq M r v M2 := fun ft hf => (h ft hf).same h3 h4
theorem Fqq.first {r : Nat} {v : Int × Int} (h : Fqq M1 r v M2) (h3 : mI M1 r 3 = mI M r 3) (h4 : mI M1 r 4 = mI M r 4) : Fqq M r v M2 := fun ft hf => h ft (hf.same h3 h4)
theorem gE_ord {o l3 : Int} {v9 : Int × Int} (hb0 : RB M0 z r w T A B D N C n p O P K) (hop : mI M0 (r + 1) k = o) (nj : ¬ jm o) (R12 : mI M110 r 12 = k) (GD : mI M110 r 5 = mI M0 r 5 - cdp o) (R14 : mI M110 r 14 = ((uw 0 + skk M0 r k : Nat) : Int)) (X : ∀ b, b ≠ r → b ≠ r + 5 → mI M110 b = mI M0 b) (G5 : ∀ i, mI M110 (r + 5) i = if i = skk M0 r k then l3 else mI M0 (r + 5) i) (GF : Fqq M0 r v9 M110) (f126 : FI (prS p O P) M110 M126) (p126 : ∀ j, mI M126 p j = if j = 2 then (L : Int) + 1 else mI M110 p j) (q126 : ∀ j, mI M126 O j = if j = L then o else mI M110 O j) (u126 : ∀ j, mI M126 P j = if j = L then mI M0 (r + 2) k else mI M110 P j) : gE M0 r p O P k L l3 v9 M126 := by
  obtain ⟨oO, oP, op, e1, e2, e3⟩ := hb0.off
  have Y6 : ∀ b, b ≠ p → b ≠ O → b ≠ P → mI M126 b = mI M110 b := fun b y1 y2 y3 => f126.2.2.2.2.2.2 b (fun q => by
    have q' : b = p ∨ b = O ∨ b = P := q
    first | exact off3 op oO oP (by assumption) (by assumption) q' | omega)
  have Yr : mI M126 r = mI M110 r := Y6 r (by omega) (by omega) (by omega)
  have Y5 : mI M126 (r + 5) = mI M110 (r + 5) := Y6 (r + 5) (by omega) (by omega) (by omega)
  have XO : mI M110 O = mI M0 O := X O (by first | exact oO | exact off0 oO | exact off9 oO (by decide) | exact off4 oO | exact e1 | exact e3 | omega) (by first | exact oO | exact off0 oO | exact off9 oO (by decide) | exact off4 oO | exact e1 | exact e3 | omega)
  have XP : mI M110 P = mI M0 P := X P (by first | exact oP | exact off0 oP | exact off9 oP (by decide) | exact off4 oP | exact e2 | exact fun q => e3 q.symm | omega) (by first | exact oP | exact off0 oP | exact off9 oP (by decide) | exact off4 oP | exact e2 | exact fun q => e3 q.symm | omega)
  have YT : ∀ i, 1 ≤ i → i ≤ 4 → mI M126 (r + i) = mI M0 (r + i) := fun i i1 i4 => by rw [Y6 (r + i) (by omega) (by omega) (by omega), X (r + i) (by omega) (by omega)]
  unfold gE
  rw [hop]
  exact ⟨⟨by rw [Yr]; exact R12, by rw [Yr]; exact GD, by rw [Yr]; exact R14⟩, YT, fun i => by rw [Y5]; exact G5 i, GF.later (by rw [Yr]) (by rw [Yr]), fun _ => ⟨fun i => by rw [q126, XO], fun i => by rw [u126, XP], by rw [p126, if_pos rfl]⟩, fun q => absurd q nj⟩
theorem gE_jmp {o l3 : Int} {v9 : Int × Int} {t : Nat} (hb0 : RB M0 z r w T A B D N C n p O P K) (hop : mI M0 (r + 1) k = o) (yj : jm o) (R12 : mI M110 r 12 = k) (GD : mI M110 r 5 = mI M0 r 5 - cdp o) (R14 : mI M110 r 14 = ((uw 0 + skk M0 r k : Nat) : Int)) (X : ∀ b, b ≠ r → b ≠ r + 5 → mI M110 b = mI M0 b) (G5 : ∀ i, mI M110 (r + 5) i = if i = skk M0 r k then l3 else mI M0 (r + 5) i) (GF : Fqq M0 r v9 M110) (g4 : mI M0 p 2 = L) (t1 : mI M0 (r + 3) k = t) (e133 : M133 = mUI M110 P t L) : gE M0 r p O P k L l3 v9 M133 := by
  obtain ⟨oO, oP, op, e1, e2, e3⟩ := hb0.off
  have Y6 : ∀ b, b ≠ P → mI M133 b = mI M110 b := fun b y1 => by rw [e133]; funext i; rw [mI_UI, if_neg (fun q => y1 q.1)]
  have Yr : mI M133 r = mI M110 r := Y6 r (by omega)
  have Y5 : mI M133 (r + 5) = mI M110 (r + 5) := Y6 (r + 5) (by omega)
  have YO : mI M133 O = mI M0 O := by rw [Y6 O (by first | exact oO | exact off0 oO | exact off9 oO (by decide) | exact off4 oO | exact e1 | exact e3 | omega), X O (by first | exact oO | exact off0 oO | exact off9 oO (by decide) | exact off4 oO | exact e1 | exact e3 | omega) (by first | exact oO | exact off0 oO | exact off9 oO (by decide) | exact off4 oO | exact e1 | exact e3 | omega)]
  have Yp : mI M133 p = mI M0 p := by rw [Y6 p (by first | exact op | exact off0 op | exact off9 op (by decide) | exact off4 op | exact fun q => e1 q.symm | exact fun q => e2 q.symm | omega), X p (by first | exact op | exact off0 op | exact off9 op (by decide) | exact off4 op | exact fun q => e1 q.symm | exact fun q => e2 q.symm | omega) (by first | exact op | exact off0 op | exact off9 op (by decide) | exact off4 op | exact fun q => e1 q.symm | exact fun q => e2 q.symm | omega)]
  have XP : mI M110 P = mI M0 P := X P (by first | exact oP | exact off0 oP | exact off9 oP (by decide) | exact off4 oP | exact e2 | exact fun q => e3 q.symm | omega) (by first | exact oP | exact off0 oP | exact off9 oP (by decide) | exact off4 oP | exact e2 | exact fun q => e3 q.symm | omega)
  have YT : ∀ i, 1 ≤ i → i ≤ 4 → mI M133 (r + i) = mI M0 (r + i) := fun i i1 i4 => by rw [Y6 (r + i) (by omega), X (r + i) (by omega) (by omega)]
  have YP : ∀ i, mI M133 P i = if i = t then (L : Int) else mI M0 P i := fun i => by
    rw [e133, mI_UI]
    by_cases v : i = t
    · rw [if_pos ⟨rfl, v⟩, if_pos v]
    · rw [if_neg (fun q => v q.2), if_neg v, XP]
  unfold gE
  rw [hop]
  exact ⟨⟨by rw [Yr]; exact R12, by rw [Yr]; exact GD, by rw [Yr]; exact R14⟩, YT, fun i => by rw [Y5]; exact G5 i, GF.later (by rw [Yr]) (by rw [Yr]), fun q => absurd yj q, fun _ => ⟨t, t1, fun i => by rw [YO], YP, by rw [Yp]; exact g4⟩⟩
theorem x_gr271 {l3 : Int} {v9 : Int × Int} (g : RG M0 r p O P n s V F ns d0 H L (k + 1) a 0) (hb0 : RB M0 z r w T A B D N C n p O P K) (ho : grpO (mI M0 (r + 1) k)) (h : gI M0 z r w T A B D N C n p O P K k (skk M0 r k) M) (h3 : l3 = 0 ∨ l3 = 1) (hx5 : mI M (r + 5) = mI M0 (r + 5)) (hxf : Fqq M0 r v9 M) : h_RR_group_271 G d r (mI M0 (r + 1) k) l3 M (fun M' => gQ M0 z r w T A B D N C n p O P K s V F ns d0 H L k a M' ∧ gE M0 r p O P k L l3 v9 M') := by
  have rm := g.room
  have sk1 := skk_le M0 r k
  obtain ⟨oO, oP, op, e1, e2, e3⟩ := hb0.off
  have hK := hb0.2.2.2.2.2.2
  obtain ⟨⟨g1, g2, g3, g4⟩, gw, ⟨ga, gs⟩, gc, ⟨gd, gd4⟩, gr, ge, ⟨gH, gHs⟩, gC, gL, gt⟩ := id g
  obtain ⟨h1, h2, h3', ⟨h4, h5⟩, h6, h7, h8⟩ := h
  have b4 := (sum_top M0 r k).2.2.2
  obtain ⟨en1, en2, en3, en4, en5, en6, -⟩ := ge k (by omega)
  generalize hop : mI M0 (r + 1) k = o at *
  have u0 : uw 0 = 1 := rfl
  have io : i32 o := gp_i ho
  refine k_RR_group_271 h1.1 io (i32s (by omega) (by omega)) ⟨h1.2.1.1, (s_RR_pushKind h3 h1 h5 (by omega)).mono (fun M98 q => ?_)⟩
  obtain ⟨h98, f98, r98, t98⟩ := q
  have o98 : ∀ b, b ≠ r → b ≠ r + 5 → mI M98 b = mI M0 b := fun b y1 y2 => by rw [f98.2.2.2.2.2.2 b (fun q => by have q' : b = r ∨ b = r + 5 := q; first | exact rin5 q' | exact nin5 (by assumption) (by assumption) q' | omega), h7 b y1 y2]
  have d98 : mI M98 r 5 = ((d0 + sdp M0 r (k + 1) : Nat) : Int) := by rw [r98, if_neg (by decide), h3' 5 (by decide) (by decide) (by decide) (by decide), gd]
  have i5 : mK M98 r = 4 ∧ i32 ((mI M98 r 5) - 1) := ⟨h98.2.1.1, by rw [d98]; exact ⟨by omega, by omega⟩⟩
  refine ⟨h98.1, ⟨fun _ => i5, fun _ => ⟨fun _ => i5, fun _ _ => i5⟩⟩, fun M110 e110 => ?_⟩
  -- the depth
  have D110 : RB M110 z r w T A B D N C n p O P K ∧ FI (rdS r p O P) M98 M110 ∧ (∀ i, i ≠ 5 → mI M110 r i = mI M98 r i) ∧ mI M110 r 5 = ((d0 + sdp M0 r k : Nat) : Int) ∧ ∀ b, b ≠ r → mI M110 b = mI M98 b := by
    by_cases y : o = 40 ∨ o = 41 ∨ o = 42
    · rw [if_pos y] at e110
      obtain ⟨x1, x2, x3, x4⟩ := rb_fld h98 i5.2 e110
      have cd : cdp o = 1 := gp_y y
      exact ⟨x1, x2, fun i hi => by rw [x3, if_neg hi], by rw [x3, if_pos rfl, d98, b4, cd]; omega, x4⟩
    · rw [if_neg y] at e110
      have cd : cdp o = 0 := gp_z ho y
      subst e110
      exact ⟨h98, FI.refl, fun _ _ => rfl, by rw [d98, b4, cd]; omega, fun _ _ => rfl⟩
  obtain ⟨h110, f110, r110, d110, o110⟩ := D110
  have X : ∀ b, b ≠ r → b ≠ r + 5 → mI M110 b = mI M0 b := fun b y1 y2 => by rw [o110 b y1, o98 b y1 y2]
  have R : ∀ i, i ≠ 3 → i ≠ 4 → i ≠ 5 → i ≠ 12 → i ≠ 14 → mI M110 r i = mI M0 r i := fun i i3 i4 i5 i12 i14 => by rw [r110 i i5, r98, if_neg i14, h3' i i3 i4 i12 i14]
  have R12 : mI M110 r 12 = k := by rw [r110 12 (by decide), r98, if_neg (by decide)]; exact h4
  have R14 : mI M110 r 14 = ((uw 0 + skk M0 r k : Nat) : Int) := by rw [r110 14 (by decide), r98, if_pos rfl]; omega
  have R3 : mI M0 r 3 ≠ 0 → mI M110 r 3 = mI M0 r 3 := fun q => by rw [r110 3 (by decide), r98, if_neg (by decide)]; exact h6 q
  have T5 : ∀ j, mI M110 (r + 5) j = 0 ∨ mI M110 (r + 5) j = 1 := fun j => by
    rw [o110 (r + 5) (by omega), t98]
    split
    · exact h3
    · exact h8 j
  have F110 : FI (rdS r p O P) M0 M110 := (h2.trans (f98.mono (fun b q => Or.inl (by have q' : b = r ∨ b = r + 5 := q; first | exact rin5 q' | exact nin5 (by assumption) (by assumption) q' | omega)))).trans f110
  have hJ : gJ M0 z r w T A B D N C n p O P K d0 k M110 := ⟨h110, F110, R, ⟨R12, R14, d110⟩, R3, X, T5⟩
  have G5 : ∀ i, mI M110 (r + 5) i = if i = skk M0 r k then l3 else mI M0 (r + 5) i := fun i => by rw [o110 (r + 5) (by omega), t98, hx5]
  have GD : mI M110 r 5 = mI M0 r 5 - cdp o := by rw [d110, gd, b4]; omega
  have GF : Fqq M0 r v9 M110 := hxf.later (by rw [r110 3 (by decide), r98, if_neg (by decide)]) (by rw [r110 4 (by decide), r98, if_neg (by decide)])
  obtain ⟨-, ⟨k0, ⟨q8, q9, q10, -⟩, ⟨kk1, kk2, kk3, -⟩, ⟨nn1, nn2, nn3, -⟩⟩, ⟨rw0, rp0⟩, -, hPK, -⟩ := id h110
  obtain ⟨pk1, ⟨pk2, pk3⟩, ⟨pk4, pk5, pk6, pk7⟩, -, -, pkC, -⟩ := id hPK
  rw [q10, q9, R12, Int.toNat_natCast, nn3, nn2, rp0, pk3, pk7, X (r + 3) (by omega) (by omega), X (r + 2) (by omega) (by omega), X p (by first | exact op | exact off0 op | exact off9 op (by decide) | exact off4 op | exact fun q => e1 q.symm | exact fun q => e2 q.symm | omega) (by first | exact op | exact off0 op | exact off9 op (by decide) | exact off4 op | exact fun q => e1 q.symm | exact fun q => e2 q.symm | omega), g4]
  refine ⟨h110.1, k0, kk3, by omega, fun y => ⟨kk2, by omega, pk1, ?_⟩, fun y => ⟨pk1, by omega, pk5, ?_⟩⟩
  · -- an order
    have nj : ¬ jm o := fun q => by obtain ⟨t, t1, -⟩ := en5 q; omega
    have no3 : (19 ≤ o ∧ o ≤ 29) ∨ o = 40 ∨ o = 41 := gp_n ho nj
    refine (s_Pr_add (n := L) io ((hb0.1 _ _).1) h110.1 hPK (by rw [X p (by first | exact op | exact off0 op | exact off9 op (by decide) | exact off4 op | exact fun q => e1 q.symm | exact fun q => e2 q.symm | omega) (by first | exact op | exact off0 op | exact off9 op (by decide) | exact off4 op | exact fun q => e1 q.symm | exact fun q => e2 q.symm | omega)]; exact g4) (by omega)).mono (fun x M126 q => ?_)
    obtain ⟨ex, o126, f126, p126, q126, u126⟩ := q
    exact ⟨by rw [ex]; exact ⟨by omega, by omega⟩, o126, k_RR_group_362 o126 ⟨gr_ord g hb0 hop no3 hJ o126 f126 p126 q126 u126, gE_ord hb0 hop nj R12 GD R14 X G5 GF f126 p126 q126 u126⟩⟩
  · -- a jump is settled
    have yj : jm o := Classical.byContradiction (fun q => y (en6 q))
    obtain ⟨t, t1, t2, t3, t4, t5, t6⟩ := en5 yj
    rw [t1, Int.toNat_natCast]
    refine ⟨by omega, fun M133 e133 => ?_⟩
    have o133 : mOk M133 := by rw [e133]; exact mOk_UI h110.1 ⟨by omega, by omega⟩
    exact k_RR_group_362 o133 ⟨gr_jmp g hb0 hop yj (gp_3 ho) hJ t1 t2 t3 t4 t5 o133 e133, gE_jmp hb0 hop yj R12 GD R14 X G5 GF g4 t1 e133⟩

theorem x_gr252 {l3 l4 : Int} {pp : Prop} (g : RG M0 r p O P n s V F ns d0 H L (k + 1) a 0) (hb0 : RB M0 z r w T A B D N C n p O P K) (ho : grpO (mI M0 (r + 1) k)) (h : gI M0 z r w T A B D N C n p O P K k (skk M0 r k) M) (h3 : l3 = 0 ∨ l3 = 1) (h4 : i32 l4) (hx5 : mI M (r + 5) = mI M0 (r + 5)) (hx3 : mI M r 3 = mI M0 r 3 ∧ mI M r 4 = mI M0 r 4) (hpp : l4 = 0 ↔ ¬ pp) : h_RR_group_252 G d r (mI M0 (r + 1) k) l3 l4 M (fun M' => gQ M0 z r w T A B D N C n p O P K s V F ns d0 H L k a M' ∧ gE M0 r p O P k L l3 (kft pp (mI M0 (r + 2) k)) M') := by
  have rm := g.room
  obtain ⟨-, ⟨k0, ⟨q8, q9, -⟩, ⟨kk1, kk2, -⟩, ⟨nn1, nn2, -⟩⟩, -⟩ := id h.1
  have e12 := h.2.2.2.1.1
  refine k_RR_group_252 h.1.1 (hb0.1 _ _).1 (i32s (by omega) (by omega)) h4 ⟨fun y => ?_, fun y => ?_⟩
  · rw [q9, nn2]
    have hnp : ¬ pp := hpp.mp y
    have ek : kft pp (mI M0 (r + 2) k) = (3, mI M0 (r + 2) k) := if_neg hnp
    have h7 := h.2.2.2.2.2.1 (r + 2) (by omega) (by omega)
    refine ⟨k0, kk2, by omega, ?_⟩
    rw [e12, Int.toNat_natCast, h7]
    have h' := h
    obtain ⟨a1, a2, a3, ⟨a4, a5⟩, a6, a7, a8⟩ := h'
    refine (x_RR_note (i32s (by omega) (by omega)) (hb0.1 _ _).1 a1).mono (fun M1 q => ?_)
    obtain ⟨b1, f1, g1, -, g3, g4⟩ := q
    have o1 : ∀ b, b ≠ r → mI M1 b = mI M b := fun b hb => f1.2.2.2.2.2.2 b hb
    have hI : gI M0 z r w T A B D N C n p O P K k (skk M0 r k) M1 := ⟨b1, a2.trans (f1.mono (fun b q => Or.inl ⟨by omega, by omega⟩)), fun i i3 i4 i12 i14 => by rw [g1 i i3 i4]; exact a3 i i3 i4 i12 i14, ⟨by rw [g1 12 (by decide) (by decide)]; exact a4, by rw [g1 14 (by decide) (by decide)]; exact a5⟩, fun q => by rw [g3 (by rw [a6 q]; exact q)]; exact a6 q, fun b b1 b2 => by rw [o1 b b1]; exact a7 b b1 b2, fun j => by rw [o1 (r + 5) (by omega)]; exact a8 j⟩
    refine ⟨b1.1, ?_⟩
    rw [ek]
    exact x_gr271 g hb0 ho hI h3 (by rw [o1 (r + 5) (by omega)]; exact hx5) ((g4 (by decide)).first hx3.1 hx3.2)
  · have hp : pp := Classical.byContradiction (fun q => y (hpp.mpr q))
    have ek : kft pp (mI M0 (r + 2) k) = (0, 0) := if_pos hp
    rw [ek]
    exact x_gr271 g hb0 ho h h3 hx5 (Fq_none hx3.1 hx3.2)

theorem x_RR_group (g : RG M0 r p O P n s V F ns d0 H L (k + 1) a 0) (hb0 : RB M0 z r w T A B D N C n p O P K) (ho : grpO (mI M0 (r + 1) k)) (e : M = mUI M0 r 12 (((k + 1 : Nat) : Int) - 1)) : Cv G y_RR_group (d + 1) [vr r] M (fun M' => gQ M0 z r w T A B D N C n p O P K s V F ns d0 H L k a M' ∧ gE M0 r p O P k L (gtv (mI M0 (r + 1) k) (mI M0 (r + 5) (skk M0 r k + ckk (mI M0 (r + 1) k)))) (kft (gft (mI M0 (r + 1) k) (mI M0 (r + 4) k) (mI M0 (r + 5) (skk M0 r k)) (mI M0 (r + 5) (skk M0 r k + ckk (mI M0 (r + 1) k)))) (mI M0 (r + 2) k)) M') := by
  have rm := g.room
  have u0 : uw 0 = 1 := rfl
  rw [show ((k + 1 : Nat) : Int) - 1 = (k : Int) by omega] at e
  obtain ⟨hM, fM, rM, nM⟩ := rb_fld hb0 ⟨by omega, by omega⟩ e
  have sk1 := (sum_top M0 r k).2.1
  have gt0 : ∀ j, mI M0 (r + 5) j = 0 ∨ mI M0 (r + 5) j = 1 := g.2.2.2.2.2.2.2.2.2.2
  have hg : gI M0 z r w T A B D N C n p O P K k (skk M0 r k + ckk (mI M0 (r + 1) k) + 1) M := by
    obtain ⟨-, -, -, gc, -, -, -, -, -, -, gt⟩ := id g
    refine ⟨hM, fM, fun i i3 i4 i12 i14 => by rw [rM, if_neg i12], ⟨by rw [rM, if_pos rfl], by rw [rM, if_neg (by decide), gc, sk1]; omega⟩, fun _ => by rw [rM, if_neg (by decide)], fun b b1 _ => nM b b1, fun j => by rw [nM (r + 5) (by omega)]; exact gt j⟩
  -- a kind is taken, and nothing else
  have pop : ∀ {c9 : Nat} {M4 : mM}, gI M0 z r w T A B D N C n p O P K k (c9 + 1) M4 → mI M4 (r + 5) = mI M0 (r + 5) → (mI M4 r 3 = mI M0 r 3 ∧ mI M4 r 4 = mI M0 r 4) → c9 < 336 → Ci G y_RR_popKind d [vr r] M4 (fun v M5 => v = mI M0 (r + 5) c9 ∧ gI M0 z r w T A B D N C n p O P K k c9 M5 ∧ mI M5 (r + 5) = mI M0 (r + 5) ∧ (mI M5 r 3 = mI M0 r 3 ∧ mI M5 r 4 = mI M0 r 4)) := fun {c9 M4} h h5 h34 hc => by
    obtain ⟨h1, h2, h3, ⟨h4, h5'⟩, h6, h7, h8⟩ := h
    refine (x_RR_popKind h1 h5' hc).mono (fun v M1 q => ?_)
    obtain ⟨⟨hv, hv2⟩, b1, f1, g1⟩ := q
    have o1 : ∀ b, b ≠ r → mI M1 b = mI M4 b := fun b hb => f1.2.2.2.2.2.2 b hb
    refine ⟨by rw [← h5]; exact hv2 (h8 c9), ⟨b1, h2.trans (f1.mono (fun b q => Or.inl ⟨by omega, by omega⟩)), fun i i3 i4 i12 i14 => by rw [g1, if_neg i14]; exact h3 i i3 i4 i12 i14, ⟨by rw [g1, if_neg (by decide)]; exact h4, by rw [g1, if_pos rfl]⟩, fun q => by rw [g1, if_neg (by decide)]; exact h6 q, fun b b1 b2 => by rw [o1 b b1]; exact h7 b b1 b2, fun j => by rw [o1 (r + 5) (by omega)]; exact h8 j⟩, by rw [o1 (r + 5) (by omega)]; exact h5, by rw [g1, if_neg (by decide)]; exact h34.1, by rw [g1, if_neg (by decide)]; exact h34.2⟩
  have b1 : skk M0 r k + ckk (mI M0 (r + 1) k) < 336 := by omega
  obtain ⟨-, ⟨k0, ⟨q8, -⟩, ⟨kk1, -⟩, ⟨nn1, -⟩⟩, -⟩ := id hM
  have e12 := hg.2.2.2.1.1
  refine k_RR_group hM.1 ?_
  rw [q8, nn1, e12, Int.toNat_natCast, nM (r + 1) (by omega)]
  refine ⟨k0, kk1, by omega, (pop hg (nM (r + 5) (by omega)) ⟨by rw [rM, if_neg (by decide)], by rw [rM, if_neg (by decide)]⟩ b1).mono (fun x5 M4 q => ?_)⟩
  obtain ⟨hx5, g4, y4, z4⟩ := q
  have hx01 := gt0 (skk M0 r k + ckk (mI M0 (r + 1) k))
  rw [← hx5] at hx01 ⊢
  refine ⟨i32s (by omega) (by omega), g4.1.1, (s_RR_level (hb0.1 _ _).1 g4.1.1).mono (fun x8 M7 q => ?_)⟩
  obtain ⟨e7, ex8⟩ := q
  subst e7
  have lb := lvl_b (mI M0 (r + 1) k)
  have h4k : mI M7 (r + 4) k = mI M0 (r + 4) k := by rw [g4.2.2.2.2.2.1 (r + 4) (by omega) (by omega)]
  generalize hop : mI M0 (r + 1) k = o at *
  have D1 : ∀ {l3 l4 : Int} {pp : Prop} {M2 : mM}, gI M0 z r w T A B D N C n p O P K k (skk M0 r k) M2 → mI M2 (r + 5) = mI M0 (r + 5) → (mI M2 r 3 = mI M0 r 3 ∧ mI M2 r 4 = mI M0 r 4) → (l3 = 0 ∨ l3 = 1) → (l4 = 0 ∨ l4 = 1) → (l4 = 0 ↔ ¬ pp) → l3 = gtv o x5 → (pp ↔ gft o (mI M0 (r + 4) k) (mI M0 (r + 5) (skk M0 r k)) x5) → h_RR_group_252 G d r o l3 l4 M2 (fun M' => gQ M0 z r w T A B D N C n p O P K s V F ns d0 H L k a M' ∧ gE M0 r p O P k L (gtv o x5) (kft (gft o (mI M0 (r + 4) k) (mI M0 (r + 5) (skk M0 r k)) x5) (mI M0 (r + 2) k)) M') := fun {l3 l4 pp M2} h2 y5 y34 y3 y4 yp et ep => by
    have := x_gr252 (G := G) (d := d) (l3 := l3) (l4 := l4) (pp := pp) g hb0 (by rw [hop]; exact ho) h2 y3 (i32s (by omega) (by omega)) y5 y34 yp
    rw [hop, propext ep, et] at this
    rw [et]
    exact this
  refine ⟨i32s (by omega) (by omega), g4.1.1, fun v11 e11 => ?_⟩
  have i11 : v11 = 0 ∨ v11 = 1 := by rw [e11]; split <;> omega
  have two : (19 ≤ o ∧ o ≤ 31) → gI M0 z r w T A B D N C n p O P K k (skk M0 r k + 1) M7 := fun y => by
    have : ckk o = 1 := by unfold ckk; rw [if_pos y]
    rw [this] at g4
    exact g4
  have one : ¬ (19 ≤ o ∧ o ≤ 31) → gI M0 z r w T A B D N C n p O P K k (skk M0 r k) M7 := fun y => by
    have : ckk o = 0 := by unfold ckk; rw [if_neg y]
    rw [this] at g4
    exact g4
  have sb : skk M0 r k < 336 := by omega
  have l01 := gt0 (skk M0 r k)
  have tv11 : ((19 ≤ o ∧ o ≤ 31) ∨ o = 41) → v11 = gtv o x5 := fun y => by
    rw [e11, ex8]
    clear i11 l01 lb hx01 sb b1 rm sk1 u0
    unfold gtv lvl
    (repeat' split) <;> omega
  have gf : (19 ≤ o ∧ o ≤ 31) → (gft o (mI M0 (r + 4) k) (mI M0 (r + 5) (skk M0 r k)) x5 ↔ okq (o - 1) (mI M0 (r + 5) (skk M0 r k)) x5) := fun y => by
    unfold gft
    rw [if_neg (by omega), if_neg (by omega), if_neg (by omega)]
  refine ⟨fun y => ⟨g4.1.2.1.1, (pop (two (by omega)) y4 z4 sb).mono (fun x M2 q => ?_)⟩, fun y1 => ⟨fun y => ⟨g4.1.2.1.1, (pop (two (by omega)) y4 z4 sb).mono (fun x M2 q => ?_)⟩, fun y2 => ⟨fun y v48 e48 => D1 (pp := x5 = 0) (one (by omega)) y4 z4 (Or.inl rfl) (by rw [e48]; split <;> omega) (by rw [e48]; split <;> omega) (by unfold gtv; rw [if_pos y]) (by unfold gft; rw [if_pos y]), fun y3 => ⟨fun y => D1 (pp := x5 = 1) (one (by omega)) y4 z4 i11 hx01 (by omega) (tv11 (Or.inr y)) (by unfold gft; rw [if_neg y3, if_pos y]), fun y4' => ⟨fun y => ?_, fun y5 => ⟨g4.1.2.1.1, (pop (two (by unfold grpO at ho; omega)) y4 z4 sb).mono (fun x M2 q => ?_)⟩⟩⟩⟩⟩⟩
  · obtain ⟨w1, w2, w3, w4⟩ := q
    refine ⟨i32s (by omega) (by omega), w2.1.1, fun v24 e24 => D1 (pp := okq (o - 1) (mI M0 (r + 5) (skk M0 r k)) x5) w2 w3 w4 i11 (by rw [e24]; split <;> omega) ?_ (tv11 (Or.inl (by omega))) (gf (by omega)).symm⟩
    have ok : okq (o - 1) (mI M0 (r + 5) (skk M0 r k)) x5 ↔ mI M0 (r + 5) (skk M0 r k) = x5 := by
      unfold okq
      rw [if_neg (by omega), if_pos (by omega)]
    rw [ok, e24, w1]
    split <;> omega
  · obtain ⟨w1, w2, w3, w4⟩ := q
    refine ⟨i32s (by omega) (by omega), w2.1.1, fun v24 e24 => D1 (pp := okq (o - 1) (mI M0 (r + 5) (skk M0 r k)) x5) w2 w3 w4 i11 (by rw [e24]; split <;> omega) ?_ (tv11 (Or.inl (by omega))) (gf (by omega)).symm⟩
    have ok : okq (o - 1) (mI M0 (r + 5) (skk M0 r k)) x5 ↔ (mI M0 (r + 5) (skk M0 r k) = 1 ∧ x5 = 1) := by
      unfold okq
      rw [if_pos (by omega)]
    rw [ok, e24, w1]
    split <;> omega
  · obtain ⟨-, ⟨k0', ⟨-, -, -, q11, -⟩, ⟨-, -, -, kk4, -⟩, ⟨-, -, -, nn4, -⟩⟩, -⟩ := id g4.1
    have e12' := g4.2.2.2.1.1
    rw [q11, nn4, e12', Int.toNat_natCast, h4k]
    refine ⟨k0', kk4, by omega, fun v62 e62 v67 e67 => D1 (pp := mI M0 (r + 4) k = if x5 = 1 then 4 else 0) (one (by omega)) y4 z4 hx01 (by rw [e67]; split <;> omega) ?_ (by unfold gtv; rw [if_neg y3, if_pos y]) (by unfold gft; rw [if_neg y3, if_neg y4', if_pos y])⟩
    have ev : v62 = if x5 = 1 then 4 else 0 := by rw [e62]; (repeat' split) <;> omega
    rw [e67, ev]
    by_cases yy : mI M0 (r + 4) k = if x5 = 1 then 4 else 0
    · rw [if_pos yy]; exact ⟨fun q => absurd q (by decide), fun q => absurd yy q⟩
    · rw [if_neg yy]; exact ⟨fun _ => yy, fun _ => rfl⟩
  · obtain ⟨w1, w2, w3, w4⟩ := q
    have hr : 19 ≤ o ∧ o ≤ 31 := by unfold grpO at ho; omega
    refine ⟨i32s (by omega) (by omega), w2.1.1, fun v24 e24 => D1 (pp := okq (o - 1) (mI M0 (r + 5) (skk M0 r k)) x5) w2 w3 w4 i11 (by rw [e24]; split <;> omega) ?_ (tv11 (Or.inl hr)) (gf hr).symm⟩
    have ok : okq (o - 1) (mI M0 (r + 5) (skk M0 r k)) x5 ↔ (mI M0 (r + 5) (skk M0 r k) = 0 ∧ x5 = 0) := by
      unfold okq
      rw [if_neg (by omega), if_neg (by omega)]
    rw [ok, e24, w1]
    split <;> omega
end RX2
end
section
/-! The class's reader: grouping, over its piles. -/
section RX3
variable {G : mG} {d z r w T A B D N C n p O P K k a s L L' V F d0 c c' : Nat} {M0 M M' M1 M2 : mM} {H H' : Nat → Nat} {ns : Nat → Int} {wt o : Int} {u : Ru}
theorem RW0.grp (v : RW0 u M0 r O P s c c' L a) (g : RG M0 r p O P n s V F ns d0 H L (k + 1) a 0) (hop : mI M0 (r + 1) k = o) (ho : grpO o) (hc : c ≤ rsq o) (hm : lwx (ruW u a) ≤ c' ∨ rsq o < lwx (ruW u a)) (h42 : o = 42 → lwx (ruW u a) ≤ c') (e : gE M0 r p O P k L (gtv (mI M0 (r + 1) k) (mI M0 (r + 5) (skk M0 r k + ckk (mI M0 (r + 1) k)))) (kft (gft (mI M0 (r + 1) k) (mI M0 (r + 4) k) (mI M0 (r + 5) (skk M0 r k)) (mI M0 (r + 5) (skk M0 r k + ckk (mI M0 (r + 1) k)))) (mI M0 (r + 2) k)) M') (hL : mI M' p 2 = L') : RW0 u M' r O P s (cst o) (pst o) L' a := by
  obtain ⟨⟨g1, g2, g3, g4⟩, -, -, gc, -⟩ := g
  have hk : mI M0 r 12 = (k : Int) + 1 := by rw [g2]; rfl
  have sk := (sum_top M0 r k).2.1
  have u0 : uw 0 = 1 := rfl
  rw [hop] at e sk
  obtain ⟨⟨e1, e2, e3⟩, e4, e5, e6, e7, e8⟩ := e
  rw [hop] at e2 e7 e8
  by_cases y1 : o = 40 ∨ o = 41
  · have nj : ¬ jm o := gp_j y1
    obtain ⟨f1, f2, f3⟩ := e7 nj
    have hLL : L' = L + 1 := by omega
    have ck : ckk o = 0 := by unfold ckk; rw [if_neg (gp_k y1)]
    have cd : cdp o = 1 := by unfold cdp; rw [if_pos (gp_d y1)]
    rw [ck] at e5 e6 sk
    rw [cd] at e2
    rw [hLL]
    have tv : gtv o (mI M0 (r + 5) (skk M0 r k + 0)) = if o = 41 then 1 else 0 := gp_v y1
    have gf : gft o (mI M0 (r + 4) k) (mI M0 (r + 5) (skk M0 r k)) (mI M0 (r + 5) (skk M0 r k + 0)) ↔ mI M0 (r + 5) (skk M0 r k) = if o = 41 then 1 else 0 := by
      unfold gft
      rcases y1 with y | y
      · subst y; rw [if_pos rfl, if_neg (by decide)]; exact Iff.rfl
      · subst y; rw [if_neg (by decide), if_pos rfl, if_pos rfl]; exact Iff.rfl
    rw [tv] at e5
    rw [propext gf] at e6
    exact v.gun (kk := skk M0 r k) hk hop y1 hc hm e1 e2 (by rw [gc]; omega) (by rw [e3]; omega) e4 e5 e6 f1 f2
  · by_cases y2 : o = 42
    · subst y2
      obtain ⟨t, t1, f1, f2, f3⟩ := e8 (by unfold jm; omega)
      have hLL : L' = L := by omega
      rw [hLL]
      have tv : gtv 42 (mI M0 (r + 5) (skk M0 r k + ckk 42)) = mI M0 (r + 5) (skk M0 r k) := by unfold gtv; rw [if_neg (by decide), if_pos rfl]; rfl
      have gf : gft 42 (mI M0 (r + 4) k) (mI M0 (r + 5) (skk M0 r k)) (mI M0 (r + 5) (skk M0 r k + ckk 42)) ↔ mI M0 (r + 4) k = if mI M0 (r + 5) (skk M0 r k) = 1 then 4 else 0 := by
        unfold gft
        rw [if_neg (by decide), if_neg (by decide), if_pos rfl]
        exact Iff.rfl
      rw [tv] at e5
      rw [propext gf] at e6
      have ck : ckk 42 = 0 := rfl
      rw [ck] at sk
      exact v.gels (kk := skk M0 r k) (dd := t) hk hop hc (h42 rfl) e1 e2 (by rw [gc]; omega) (by rw [e3]; omega) e4 (fun i => by
        rw [e5]
        split
        · rename_i q; rw [q]
        · rfl) e6 t1 f1 f2
    · have hr : 19 ≤ o ∧ o ≤ 31 := gp_r ho y1 y2
      have ck : ckk o = 1 := by unfold ckk; rw [if_pos hr]
      have cd : cdp o = 0 := by unfold cdp; rw [if_neg (gp_e hr)]
      rw [ck] at e5 e6 sk
      rw [cd] at e2
      have gf : gft o (mI M0 (r + 4) k) (mI M0 (r + 5) (skk M0 r k)) (mI M0 (r + 5) (skk M0 r k + 1)) ↔ okq (o - 1) (mI M0 (r + 5) (skk M0 r k)) (mI M0 (r + 5) (skk M0 r k + 1)) := by
        unfold gft
        rw [if_neg (by omega), if_neg (by omega), if_neg (by omega)]
      rw [propext gf] at e6
      by_cases y3 : o = 30 ∨ o = 31
      · obtain ⟨t, t1, f1, f2, f3⟩ := e8 (gp_jm y3)
        have hLL : L' = L := by omega
        rw [hLL]
        have tv : gtv o (mI M0 (r + 5) (skk M0 r k + 1)) = 1 := by unfold gtv; rw [if_neg (by omega), if_neg (by omega), if_pos (by omega)]
        rw [tv] at e5
        exact v.gjmp (kk := skk M0 r k) (dd := t) hk hop y3 hc hm e1 (by omega) (by rw [gc]; omega) (by rw [e3]; omega) e4 e5 e6 t1 f1 f2
      · obtain ⟨f1, f2, f3⟩ := e7 (gp_nj hr y3)
        have hLL : L' = L + 1 := by omega
        rw [hLL]
        have tv : gtv o (mI M0 (r + 5) (skk M0 r k + 1)) = if o ≤ 24 then 1 else 0 := by unfold gtv; (repeat' split) <;> omega
        rw [tv] at e5
        exact v.gbin (kk := skk M0 r k) hk hop (by omega) hc hm e1 (by omega) (by rw [gc]; omega) (by rw [e3]; omega) e4 e5 e6 f1 f2
end RX3
end
section
/-! The class's reader: signs and '?', exactly. -/
/-- a second comparison -/
def cmp2 (M : mM) (r k : Nat) (o : Int) : Prop := lvl o = 4 ∧ 0 < k ∧ lvl (mI M (r + 1) (k - 1)) = 4
/-- a sign's step -/
def sgE (M : mM) (r p O P B k L a : Nat) (o x : Int) (M' : mM) : Prop := (x = 2 ∧ cmp2 M r k o) ∨ (x = 0 ∧ ¬ cmp2 M r k o ∧ pshE M r k o (mI M B a) (if o = 30 ∨ o = 31 then (L : Int) else -1) 0 (mI M r 5) (mI M r 14) M' ∧ ((o = 30 ∨ o = 31) → (∀ i, mI M' O i = if i = L then o else mI M O i) ∧ mI M' p 2 = (L : Int) + 1) ∧ (¬ (o = 30 ∨ o = 31) → mI M' O = mI M O ∧ mI M' P = mI M P ∧ mI M' p 2 = L))
/-- the step of a '?' -/
def akE (M : mM) (r p O P B k kk L a : Nat) (x : Int) (M' : mM) : Prop := (x = 2 ∧ ¬ mI M r 5 < 40) ∨ (x = 0 ∧ mI M r 5 < 40 ∧ pshE M r k 33 (mI M B a) L (if mI M (r + 5) kk = 1 then 0 else 1) (mI M r 5 + 1) kk M' ∧ (∀ i, mI M' O i = if i = L then 33 else mI M O i) ∧ mI M' p 2 = (L : Int) + 1)
section RX4
variable {G : mG} {d z r w T A B D N C n p O P K k a s L V F d0 c : Nat} {M0 M M' M1 M2 M110 M126 M133 : mM} {H H' : Nat → Nat} {ns : Nat → Int} {wt : Int}

theorem pshE.of {M18 M22 : mM} {o pl od : Int} (r22 : ∀ i, mI M22 r i = if i = 2 then (a : Int) + 1 else if i = 7 then 1 else if i = 12 then (k : Int) + 1 else mI M18 r i) (t1 : ∀ i, mI M22 (r + 1) i = if i = k then o else mI M18 (r + 1) i) (t2 : ∀ i, mI M22 (r + 2) i = if i = k then pl else mI M18 (r + 2) i) (t3 : ∀ i, mI M22 (r + 3) i = if i = k then od else mI M18 (r + 3) i) (t4 : ∀ i, mI M22 (r + 4) i = if i = k then 0 else mI M18 (r + 4) i) (Z : ∀ b, (b < r ∨ r + 4 < b) → mI M22 b = mI M18 b) (Y : ∀ b, r ≤ b → b ≤ r + 9 → mI M18 b = mI M b) : pshE M r k o pl od 0 (mI M r 5) (mI M r 14) M22 := by
  have y0 := Y r (by omega) (by omega)
  have S22 : ∀ i, i ≠ 2 → i ≠ 7 → i ≠ 12 → mI M22 r i = mI M r i := fun i i2 i7 i12 => by rw [r22, if_neg i2, if_neg i7, if_neg i12, y0]
  exact ⟨⟨by rw [r22, if_neg (by decide), if_neg (by decide), if_pos rfl], S22 5 (by decide) (by decide) (by decide), S22 3 (by decide) (by decide) (by decide), S22 4 (by decide) (by decide) (by decide), S22 14 (by decide) (by decide) (by decide)⟩, fun i => by rw [t1, Y (r + 1) (by omega) (by omega)], fun i => by rw [t2, Y (r + 2) (by omega) (by omega)], fun i => by rw [t3, Y (r + 3) (by omega) (by omega)], fun i => by rw [t4, Y (r + 4) (by omega) (by omega)], by rw [Z (r + 5) (by omega), Y (r + 5) (by omega) (by omega)]⟩
set_option maxHeartbeats 2000000 in
theorem x_RR_takeSign {o : Int} (h : RB M z r w T A B D N C n p O P K) (g : RG M r p O P n s V F ns d0 H L k a 0) (ho : 19 ≤ o ∧ o ≤ 31) (han : a < n) (ht : 0 < k → lvl (mI M (r + 1) (k - 1)) < (if lvl o = 4 then 5 else lvl o)) : Ci G y_RR_takeSign (d + 1) [vr r, vi o, vi (lvl o)] M (fun x M' => sgQ M z r w T A B D N C n p O P K s V F ns d0 H L k a x M' ∧ sgE M r p O P B k L a o x M') := by
  have rm := g.room
  obtain ⟨oO, oP, op, e1, e2, e3⟩ := h.off
  have hwN := h.2.2.2.1.2.2.1
  have hN := h.2.2.2.1.1.2.2.2.2.2.2.1
  have hK := h.2.2.2.2.2.2
  have lb := lvl_b o
  have rl := rk_lvl o
  have cd : cdp o = 0 := by unfold cdp; rw [if_neg (gp_e ho)]
  have r1 : 1 ≤ rkk o := by unfold rkk; (repeat' split) <;> omega
  have ck : ckk o = 1 := by unfold ckk; rw [if_pos ho]
  obtain ⟨⟨g1, g2, g3, g4⟩, -, -, gc, ⟨gd, gd4⟩, -, -, -, -, gL, gt⟩ := id g
  obtain ⟨-, ⟨k0, ⟨q8, -⟩, ⟨kk1, -⟩, ⟨nn1, -⟩⟩, ⟨-, rp1⟩, -, hPK, -⟩ := id h
  have u0 : uw 0 = 1 := rfl
  -- the sign is put
  have put : (0 < k → rkk (mI M (r + 1) (k - 1)) < rkk o) → ¬ cmp2 M r k o → Ci G y_RR_here d [vr r] M (fun x8 M7 => i32 x8 ∧ mOk M7 ∧ ((((o = 30) ∨ (o = 31)) → (mK M7 r = 4 ∧ mK M7 (mR M7 r 1) = 6 ∧ Ci G y_Pr_add d [vr (mR M7 r 1), vi o, vi 0] M7 (fun x19 M18 => i32 x19 ∧ mOk M18 ∧ (mK M18 r = 4 ∧ Cv G y_RR_push d [vr r, vi o, vi x8, vi x19] M18 (fun M22 => mOk M22 ∧ ((sgQ M z r w T A B D N C n p O P K s V F ns d0 H L k a 0 M22 ∧ sgE M r p O P B k L a o 0 M22))))))) ∧ (¬ ((o = 30) ∨ (o = 31)) → (mK M7 r = 4 ∧ Cv G y_RR_push d [vr r, vi o, vi x8, vi (-1)] M7 (fun M27 => mOk M27 ∧ ((sgQ M z r w T A B D N C n p O P K s V F ns d0 H L k a 0 M27 ∧ sgE M r p O P B k L a o 0 M27))))))) := fun hrk hnd => by
    have lv := g.lvl (o := o) (Or.inr ⟨cd, r1, hrk⟩)
    refine (s_RR_here h g1 (by omega)).mono (fun x8 M7 q => ?_)
    obtain ⟨e7, x8v, x0, x1⟩ := q
    subst e7
    refine ⟨i32s (by omega) (by omega), h.1, fun y => ?_, fun y => ?_⟩
    · rw [rp1]
      refine ⟨k0, hPK.1, (s_Pr_add (n := L) (i32s (by omega) (by omega)) (i32s (by omega) (by omega)) h.1 hPK g4 (by omega)).mono (fun x19 M18 q => ?_)⟩
      obtain ⟨ex, o18, f18, p18, q18, u18⟩ := q
      have f18' : FI (rdS r p O P) M7 M18 := f18.mono (fun b q => Or.inr q)
      have h18 := h.fi o18 f18'
      have Y : ∀ b, r ≤ b → b ≤ r + 9 → mI M18 b = mI M7 b := fun b y1 y2 => f18.2.2.2.2.2.2 b (fun q => by
        have q' : b = p ∨ b = O ∨ b = P := q
        first | exact off3 op oO oP (by assumption) (by assumption) q' | omega)
      refine ⟨⟨by omega, by omega⟩, o18, h18.2.1.1, (s_RR_push (k := k) (a := a) (i32s (by omega) (by omega)) (i32s (by omega) (by omega)) ⟨by omega, by omega⟩ h18 (by rw [Y r (by omega) (by omega)]; exact g2) (by omega) (by rw [Y r (by omega) (by omega)]; exact g1) (by omega)).mono (fun M22 q => ?_)⟩
      obtain ⟨h22, f22, r22, t1, t2, t3, t4⟩ := q
      have Z : ∀ b, (b < r ∨ r + 4 < b) → mI M22 b = mI M18 b := fun b hb => f22.2.2.2.2.2.2 b (fun q => by have q' : r ≤ b ∧ b ≤ r + 4 := q; omega)
      have f22' : FI (rdS r p O P) M18 M22 := f22.mono (fun b q => Or.inl (by have q' : r ≤ b ∧ b ≤ r + 4 := q; omega))
      have ZO : mI M22 O = mI M18 O := Z O (by first | exact oO | exact off0 oO | exact off9 oO (by decide) | exact off4 oO | exact e1 | exact e3 | omega)
      have Zp : mI M22 p = mI M18 p := Z p (by first | exact op | exact off0 op | exact off9 op (by decide) | exact off4 op | exact fun q => e1 q.symm | exact fun q => e2 q.symm | omega)
      refine ⟨h22.1, ⟨h22, f18'.trans f22', fun i i2 i5 i7 i12 i14 => by rw [r22, if_neg i2, if_neg i7, if_neg i12, Y r (by omega) (by omega)], fun i i6 i9 => by rw [Z (r + i) (by omega), Y (r + i) (by omega) (by omega)], fun i i2 => by rw [Z p (by first | exact op | exact off0 op | exact off9 op (by decide) | exact off4 op | exact fun q => e1 q.symm | exact fun q => e2 q.symm | omega), p18, if_neg i2], fun i hi => ⟨by rw [Z O (by first | exact oO | exact off0 oO | exact off9 oO (by decide) | exact off4 oO | exact e1 | exact e3 | omega), q18, if_neg (by omega)], by rw [Z P (by first | exact oP | exact off0 oP | exact off9 oP (by decide) | exact off4 oP | exact e2 | exact fun q => e3 q.symm | omega), u18, if_neg (by omega)]⟩, Or.inr ⟨rfl, ?_⟩⟩, Or.inr ⟨rfl, hnd, by rw [if_pos y, ← x8v, ← ex]; exact pshE.of r22 t1 t2 t3 t4 Z Y, fun _ => ⟨fun i => by rw [ZO, q18], by rw [Zp, p18, if_pos rfl]⟩, fun q => absurd y q⟩⟩
      obtain ⟨H', gg, hh⟩ := g.pshj (M' := M22) (o := o) (pl := x8) (mk := 0) (dd := d0 + sdp M7 r k) (c' := skk M7 r k + 1) (fun i => by
        rw [r22, Y r (by omega) (by omega)]
        by_cases y5 : i = 5
        · subst y5
          rw [if_neg (by decide), if_neg (by decide), if_neg (by decide), if_neg (by decide), if_neg (by decide), if_neg (by decide), if_pos rfl]
          exact gd
        · by_cases y14 : i = 14
          · subst y14
            rw [if_neg (by decide), if_neg (by decide), if_neg (by decide), if_neg (by decide), if_neg (by decide), if_neg (by decide), if_neg (by decide), if_pos rfl, gc]
            omega
          · rw [if_neg y5, if_neg y14]) (fun i => by rw [t1, Y (r + 1) (by omega) (by omega)]) (fun i => by rw [t2, Y (r + 2) (by omega) (by omega)]) (fun i => by rw [t3, Y (r + 3) (by omega) (by omega), ex]) (fun i => by rw [t4, Y (r + 4) (by omega) (by omega)]) (fun j => by rw [Z (r + 5) (by omega), Y (r + 5) (by omega) (by omega)]; exact gt j) (by rw [Z p (by first | exact op | exact off0 op | exact off9 op (by decide) | exact off4 op | exact fun q => e1 q.symm | exact fun q => e2 q.symm | omega), p18, if_pos rfl]) (fun i => by rw [Z O (by first | exact oO | exact off0 oO | exact off9 oO (by decide) | exact off4 oO | exact e1 | exact e3 | omega), q18]) (fun i => by rw [Z P (by first | exact oP | exact off0 oP | exact off9 oP (by decide) | exact off4 oP | exact e2 | exact fun q => e3 q.symm | omega), u18]) (by omega) ⟨x0, x1⟩ ⟨by omega, by omega⟩ (by omega) gd4 lv (by omega) han (fun q => absurd q (by omega))
      exact ⟨H', L + 1, gg, by omega, hh⟩
    · refine ⟨k0, (s_RR_push (k := k) (a := a) (i32s (by omega) (by omega)) (i32s (by omega) (by omega)) ⟨by omega, by omega⟩ h g2 (by omega) g1 (by omega)).mono (fun M22 q => ?_)⟩
      obtain ⟨h22, f22, r22, t1, t2, t3, t4⟩ := q
      have Z : ∀ b, (b < r ∨ r + 4 < b) → mI M22 b = mI M7 b := fun b hb => f22.2.2.2.2.2.2 b (fun q => by have q' : r ≤ b ∧ b ≤ r + 4 := q; omega)
      have f22' : FI (rdS r p O P) M7 M22 := f22.mono (fun b q => Or.inl (by have q' : r ≤ b ∧ b ≤ r + 4 := q; omega))
      refine ⟨h22.1, ⟨h22, f22', fun i i2 i5 i7 i12 i14 => by rw [r22, if_neg i2, if_neg i7, if_neg i12], fun i i6 i9 => Z (r + i) (by omega), fun i i2 => by rw [Z p (by first | exact op | exact off0 op | exact off9 op (by decide) | exact off4 op | exact fun q => e1 q.symm | exact fun q => e2 q.symm | omega)], fun i hi => ⟨by rw [Z O (by first | exact oO | exact off0 oO | exact off9 oO (by decide) | exact off4 oO | exact e1 | exact e3 | omega)], by rw [Z P (by first | exact oP | exact off0 oP | exact off9 oP (by decide) | exact off4 oP | exact e2 | exact fun q => e3 q.symm | omega)]⟩, Or.inr ⟨rfl, H, L, ?_, Nat.le_refl _, fun _ _ => rfl⟩⟩, Or.inr ⟨rfl, hnd, by rw [if_neg y, ← x8v]; exact pshE.of r22 t1 t2 t3 t4 Z (fun _ _ _ => rfl), fun q => absurd q y, fun _ => ⟨Z O (by first | exact oO | exact off0 oO | exact off9 oO (by decide) | exact off4 oO | exact e1 | exact e3 | omega), Z P (by first | exact oP | exact off0 oP | exact off9 oP (by decide) | exact off4 oP | exact e2 | exact fun q => e3 q.symm | omega), by rw [Z p (by first | exact op | exact off0 op | exact off9 op (by decide) | exact off4 op | exact fun q => e1 q.symm | exact fun q => e2 q.symm | omega)]; exact g4⟩⟩⟩
      exact g.psh (M' := M22) (o := o) (pl := x8) (dd := d0 + sdp M7 r k) (fun i => by
        rw [r22]
        by_cases y5 : i = 5
        · subst y5
          rw [if_neg (by decide), if_neg (by decide), if_neg (by decide), if_neg (by decide), if_neg (by decide), if_neg (by decide), if_pos rfl]
          exact gd
        · rw [if_neg y5]) t1 t2 t3 t4 (Z _ (by omega)) (Z p (by first | exact op | exact off0 op | exact off9 op (by decide) | exact off4 op | exact fun q => e1 q.symm | exact fun q => e2 q.symm | omega)) (Z O (by first | exact oO | exact off0 oO | exact off9 oO (by decide) | exact off4 oO | exact e1 | exact e3 | omega)) (Z P (by first | exact oP | exact off0 oP | exact off9 oP (by decide) | exact off4 oP | exact e2 | exact fun q => e3 q.symm | omega)) (by unfold opn; omega) (by unfold jm; omega) ⟨x0, x1⟩ (by omega) gd4 lv (by rw [ck]; rfl) (by unfold cm; rw [if_pos (by omega)]; rfl) han
  refine k_RR_takeSign h.1 (i32s (by omega) (by omega)) (i32s (by omega) (by omega)) ⟨fun _ => k0, fun y => ⟨k0, put (fun hk => ?_) (fun q => by have q1 := q.1; have q2 := q.2.1; omega)⟩, fun y => ⟨k0, ?_⟩⟩
  · have rt := rk_lvl (mI M (r + 1) (k - 1))
    have t := ht hk
    rw [if_neg (by omega)] at t
    omega
  · rw [q8, nn1, g2, show ((k : Int) - 1).toNat = k - 1 by omega]
    refine ⟨kk1, by omega, (s_RR_level (h.1 _ _).1 h.1).mono (fun x37 M36 q => ?_)⟩
    obtain ⟨e36, ex⟩ := q
    subst e36
    have lt := lvl_b (mI M36 (r + 1) (k - 1))
    refine ⟨i32s (by omega) (by omega), h.1, fun z4 => ⟨⟨h, FI.refl, fun _ _ _ _ _ _ => rfl, fun _ _ _ => rfl, fun _ _ => rfl, fun _ _ => ⟨rfl, rfl⟩, Or.inl ⟨rfl, rfl⟩⟩, Or.inl ⟨rfl, by omega, by omega, by rw [← ex]; exact z4⟩⟩, fun z4 => ⟨k0, put (fun hk => ?_) (fun q => z4 (ex.trans q.2.2))⟩⟩
    have rt := rk_lvl (mI M36 (r + 1) (k - 1))
    have t := ht hk
    rw [if_pos (by omega)] at t
    omega

theorem x_RR_takeAsk (h : RB M z r w T A B D N C n p O P K) (g : RG M r p O P n s V F ns d0 H L k a 0) (han : a < n) (hat : 0 < k → lvl (mI M (r + 1) (k - 1)) = 0) : Ci G y_RR_takeAsk (d + 1) [vr r] M (fun x M' => sgQ M z r w T A B D N C n p O P K s V F ns d0 H L k a x M' ∧ akE M r p O P B k (skk M r k) L a x M') := by
  have rm := g.room
  obtain ⟨oO, oP, op, e1, e2, e3⟩ := h.off
  have hwN := h.2.2.2.1.2.2.1
  have hN := h.2.2.2.1.1.2.2.2.2.2.2.1
  have hK := h.2.2.2.2.2.2
  have cd : cdp 33 = 1 := rfl
  have ck : ckk 33 = 0 := rfl
  obtain ⟨⟨g1, g2, g3, g4⟩, -, -, gc, ⟨gd, gd4⟩, -, -, -, -, gL, gt⟩ := id g
  have u0 : uw 0 = 1 := rfl
  refine k_RR_takeAsk h.1 ⟨h.2.1.1, fun y => ⟨⟨h, FI.refl, fun _ _ _ _ _ _ => rfl, fun _ _ _ => rfl, fun _ _ => rfl, fun _ _ => ⟨rfl, rfl⟩, Or.inl ⟨rfl, rfl⟩⟩, Or.inl ⟨rfl, by omega⟩⟩, fun y => ⟨⟨by omega, by omega⟩, fun M8 e8 => ?_⟩⟩
  have d40 : d0 + sdp M r k < 40 := by omega
  obtain ⟨h8, f8, r8, n8⟩ := rb_fld h ⟨by omega, by omega⟩ e8
  refine (x_RR_popKind (c := skk M r k) h8 (by rw [r8, if_neg (by decide), gc]; omega) (by omega)).mono (fun x11 M10 q => ?_)
  obtain ⟨⟨hx, hx2⟩, h10, f10, r10⟩ := q
  have hx3 : x11 = mI M (r + 5) (skk M r k) := by rw [n8 (r + 5) (by omega)] at hx2; exact hx2 (gt _)
  have n10 : ∀ b, b ≠ r → mI M10 b = mI M b := fun b hb => by rw [f10.2.2.2.2.2.2 b hb, n8 b hb]
  have R10 : ∀ i, mI M10 r i = if i = 14 then ((skk M r k : Nat) : Int) else if i = 5 then ((d0 + sdp M r k + 1 : Nat) : Int) else mI M r i := fun i => by
    rw [r10]
    by_cases y14 : i = 14
    · rw [if_pos y14, if_pos y14]
    · rw [if_neg y14, if_neg y14, r8]
      by_cases y5 : i = 5
      · rw [if_pos y5, if_pos y5, gd]
        omega
      · rw [if_neg y5, if_neg y5]
  have F10 : FI (rdS r p O P) M M10 := f8.trans (f10.mono (fun b q => Or.inl ⟨by omega, by omega⟩))
  refine ⟨i32s (by omega) (by omega), h10.1, fun v14 e14 => ⟨h10.2.1.1, (s_RR_here (a := a) h10 (by rw [R10, if_neg (by decide), if_neg (by decide)]; exact g1) (by omega)).mono (fun x21 M20 q => ?_)⟩⟩
  obtain ⟨e20, x21v, x0, x1⟩ := q
  subst e20
  have b14 : v14 = 0 ∨ v14 = 1 := by rw [e14]; split <;> omega
  obtain ⟨-, -, ⟨-, rp1⟩, -, hPK, -⟩ := id h10
  rw [rp1]
  refine ⟨i32s (by omega) (by omega), h10.1, h10.2.1.1, hPK.1, (s_Pr_add (n := L) (i32s (by omega) (by omega)) (i32s (by omega) (by omega)) h10.1 hPK (by rw [n10 p (by first | exact op | exact off0 op | exact off9 op (by decide) | exact off4 op | exact fun q => e1 q.symm | exact fun q => e2 q.symm | omega)]; exact g4) (by omega)).mono (fun x26 M25 q => ?_)⟩
  obtain ⟨ex, o25, f25, p25, q25, u25⟩ := q
  have f25' : FI (rdS r p O P) M20 M25 := f25.mono (fun b q => Or.inr q)
  have h25 := h10.fi o25 f25'
  have Y : ∀ b, r ≤ b → b ≤ r + 9 → mI M25 b = mI M20 b := fun b y1 y2 => f25.2.2.2.2.2.2 b (fun q => by
    have q' : b = p ∨ b = O ∨ b = P := q
    first | exact off3 op oO oP (by assumption) (by assumption) q' | omega)
  refine ⟨⟨by omega, by omega⟩, o25, h25.2.1.1, (s_RR_push (k := k) (a := a) (i32s (by omega) (by omega)) (i32s (by omega) (by omega)) ⟨by omega, by omega⟩ h25 (by rw [Y r (by omega) (by omega), R10, if_neg (by decide), if_neg (by decide)]; exact g2) (by omega) (by rw [Y r (by omega) (by omega), R10, if_neg (by decide), if_neg (by decide)]; exact g1) (by omega)).mono (fun M29 q => ?_)⟩
  obtain ⟨h29, f29, r29, t1, t2, t3, t4⟩ := q
  have Z : ∀ b, (b < r ∨ r + 4 < b) → mI M29 b = mI M25 b := fun b hb => f29.2.2.2.2.2.2 b (fun q => by have q' : r ≤ b ∧ b ≤ r + 4 := q; omega)
  have f29' : FI (rdS r p O P) M25 M29 := f29.mono (fun b q => Or.inl (by have q' : r ≤ b ∧ b ≤ r + 4 := q; omega))
  have e12 : mI M29 r 12 = (k : Int) + 1 := by rw [r29, if_neg (by decide), if_neg (by decide), if_pos rfl]
  obtain ⟨-, ⟨k0', ⟨-, -, -, q11, -⟩, ⟨-, -, -, kk4, -⟩, ⟨-, -, -, nn4, -⟩⟩, -⟩ := id h29
  rw [q11, nn4, e12, show ((k : Int) + 1 - 1).toNat = k by omega]
  refine ⟨h29.1, k0', kk4, by omega, fun M35 e35 => ?_⟩
  obtain ⟨h35, f35, g35, n35⟩ := rb_tab h29 (i := 4) (by omega) (by omega) (i32s (by omega) (by omega)) e35
  have W : ∀ b, (b < r ∨ r + 4 < b) → mI M35 b = mI M25 b := fun b hb => by rw [n35 b (by omega), Z b hb]
  have S35 : ∀ i, i ≠ 2 → i ≠ 5 → i ≠ 7 → i ≠ 12 → i ≠ 14 → mI M35 r i = mI M r i := fun i i2 i5 i7 i12 i14 => by rw [n35 r (by omega), r29, if_neg i2, if_neg i7, if_neg i12, Y r (by omega) (by omega), R10, if_neg i14, if_neg i5]
  have hB : mI M20 B = mI M B := n10 B (fun q => h.2.2.2.2.2.1.2.2 B (by omega) (by omega))
  refine ⟨⟨h35, ((F10.trans f25').trans f29').trans f35, fun i i2 i5 i7 i12 i14 => by rw [n35 r (by omega), r29, if_neg i2, if_neg i7, if_neg i12, Y r (by omega) (by omega), R10, if_neg i14, if_neg i5], fun i i6 i9 => by rw [W (r + i) (by omega), Y (r + i) (by omega) (by omega), n10 (r + i) (by omega)], fun i i2 => by rw [W p (by first | exact op | exact off0 op | exact off9 op (by decide) | exact off4 op | exact fun q => e1 q.symm | exact fun q => e2 q.symm | omega), p25, if_neg i2, n10 p (by first | exact op | exact off0 op | exact off9 op (by decide) | exact off4 op | exact fun q => e1 q.symm | exact fun q => e2 q.symm | omega)], fun i hi => ⟨by rw [W O (by first | exact oO | exact off0 oO | exact off9 oO (by decide) | exact off4 oO | exact e1 | exact e3 | omega), q25, if_neg (by omega), n10 O (by first | exact oO | exact off0 oO | exact off9 oO (by decide) | exact off4 oO | exact e1 | exact e3 | omega)], by rw [W P (by first | exact oP | exact off0 oP | exact off9 oP (by decide) | exact off4 oP | exact e2 | exact fun q => e3 q.symm | omega), u25, if_neg (by omega), n10 P (by first | exact oP | exact off0 oP | exact off9 oP (by decide) | exact off4 oP | exact e2 | exact fun q => e3 q.symm | omega)]⟩, Or.inr ⟨rfl, ?_⟩⟩, Or.inr ⟨rfl, by omega, ⟨⟨by rw [n35 r (by omega)]; exact e12, by rw [n35 r (by omega), r29, if_neg (by decide), if_neg (by decide), if_neg (by decide), Y r (by omega) (by omega), R10, if_neg (by decide), if_pos rfl, gd]; omega, S35 3 (by decide) (by decide) (by decide) (by decide) (by decide), S35 4 (by decide) (by decide) (by decide) (by decide) (by decide), by rw [n35 r (by omega), r29, if_neg (by decide), if_neg (by decide), if_neg (by decide), Y r (by omega) (by omega), R10, if_pos rfl]⟩, fun i => by rw [n35 (r + 1) (by omega), t1, Y (r + 1) (by omega) (by omega), n10 (r + 1) (by omega)], fun i => by rw [n35 (r + 2) (by omega), t2, Y (r + 2) (by omega) (by omega), n10 (r + 2) (by omega), x21v, hB], fun i => by rw [n35 (r + 3) (by omega), t3, Y (r + 3) (by omega) (by omega), n10 (r + 3) (by omega), ex], fun i => ?_, by rw [W (r + 5) (by omega), Y (r + 5) (by omega) (by omega), n10 (r + 5) (by omega)]⟩, fun i => by rw [W O (by first | exact oO | exact off0 oO | exact off9 oO (by decide) | exact off4 oO | exact e1 | exact e3 | omega), q25, n10 O (by first | exact oO | exact off0 oO | exact off9 oO (by decide) | exact off4 oO | exact e1 | exact e3 | omega)], by rw [W p (by first | exact op | exact off0 op | exact off9 op (by decide) | exact off4 op | exact fun q => e1 q.symm | exact fun q => e2 q.symm | omega), p25, if_pos rfl]⟩⟩
  rotate_left
  · rw [g35]
    by_cases yk : i = k
    · rw [if_pos yk, if_pos yk, e14, hx3]
      have := gt (skk M r k)
      (repeat' split) <;> omega
    · rw [if_neg yk, if_neg yk, t4, if_neg yk, Y (r + 4) (by omega) (by omega), n10 (r + 4) (by omega)]
  obtain ⟨H', gg, hh⟩ := g.pshj (M' := M35) (o := 33) (pl := x21) (mk := v14) (dd := d0 + sdp M r k + 1) (c' := skk M r k) (fun i => by
    rw [n35 r (by omega), r29, Y r (by omega) (by omega), R10]
    by_cases y5 : i = 5
    · subst y5
      rw [if_neg (by decide), if_neg (by decide), if_neg (by decide), if_neg (by decide), if_pos rfl, if_neg (by decide), if_neg (by decide), if_neg (by decide), if_pos rfl]
    · rw [if_neg y5, if_neg y5]) (fun i => by rw [n35 (r + 1) (by omega), t1, Y (r + 1) (by omega) (by omega), n10 (r + 1) (by omega)]) (fun i => by rw [n35 (r + 2) (by omega), t2, Y (r + 2) (by omega) (by omega), n10 (r + 2) (by omega)]) (fun i => by rw [n35 (r + 3) (by omega), t3, Y (r + 3) (by omega) (by omega), n10 (r + 3) (by omega), ex]) (fun i => by
    rw [g35]
    by_cases yk : i = k
    · rw [if_pos yk, if_pos yk]
    · rw [if_neg yk, if_neg yk, t4, if_neg yk, Y (r + 4) (by omega) (by omega), n10 (r + 4) (by omega)]) (fun j => by rw [W (r + 5) (by omega), Y (r + 5) (by omega) (by omega), n10 (r + 5) (by omega)]; exact gt j) (by rw [W p (by first | exact op | exact off0 op | exact off9 op (by decide) | exact off4 op | exact fun q => e1 q.symm | exact fun q => e2 q.symm | omega), p25, if_pos rfl]) (fun i => by rw [W O (by first | exact oO | exact off0 oO | exact off9 oO (by decide) | exact off4 oO | exact e1 | exact e3 | omega), q25, n10 O (by first | exact oO | exact off0 oO | exact off9 oO (by decide) | exact off4 oO | exact e1 | exact e3 | omega)]) (fun i => by rw [W P (by first | exact oP | exact off0 oP | exact off9 oP (by decide) | exact off4 oP | exact e2 | exact fun q => e3 q.symm | omega), u25, n10 P (by first | exact oP | exact off0 oP | exact off9 oP (by decide) | exact off4 oP | exact e2 | exact fun q => e3 q.symm | omega)]) (by omega) ⟨x0, x1⟩ ⟨by omega, by omega⟩ (by omega) (by omega) (g.lvl (Or.inl cd)) (by omega) han (fun _ _ j hj => by rw [n35 (r + 1) (by omega), t1, if_neg (by omega), Y (r + 1) (by omega) (by omega), n10 (r + 1) (by omega), show j = k - 1 by omega]; exact hat (by omega))
  exact ⟨H', L + 1, gg, by omega, hh⟩

end RX4
end
end
