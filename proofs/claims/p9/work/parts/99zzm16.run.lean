section
/-! The class's machine, exactly: run over the orders of a rule. -/
section RUY
variable {G : mG} {d z m U Ab0 Be0 C0 cc p O P K L : Nat} {M0 : mM} {w E pl : Nat → Int} {cv : Nat → vrs} {ec : Nat → Int × Int}
theorem vbd_0 {v : vrs} {f : Int → Int → vrs} (h : v.1 = 0) : vbd v f = f v.2.1 v.2.2 := if_pos h
theorem vbd_1 {v : vrs} {f : Int → Int → vrs} (h : v.1 ≠ 0) : vbd v f = v := if_neg h
/-- what a leaf's order pushes -/
def Lfo (M0 : mM) (p : Nat) (w E : Nat → Int) (cv : Nat → vrs) (ec : Nat → Int × Int) (k : Nat) : Prop := vgd (if w k = 12 ∨ w k = 13 ∨ (w k = 1 ∧ E k = 1) then 1 else 0) (cv k) ∧ (((ec k).1 = 3 ∧ cv k = (0, (ec k).2, 1)) ∨ ((ec k).1 = 4 ∧ ∃ x : Nat, (ec k).2 = x ∧ x < 60 ∧ (1 ≤ mI M0 (p + 7) x ∧ mI M0 (p + 7) x < 1000000000) ∧ cv k = (0, mI M0 (p + 6) x, mI M0 (p + 7) x)))
/-- how a rule's orders run: v its value, c9 calls are open -/
def Rcp (G : mG) (d : Nat) (M0 : mM) (z m U Ab0 Be0 C0 cc : Nat) (v : vrs) (s e : Nat) : Prop := ∀ (t i : Nat) (M : mM) (Q : Int → mM → Prop), t + (e - s) ≤ 16384 → i + (e - s) ≤ 1000000 → MS M0 z m U Ab0 Be0 C0 M t cc →
  (∀ (M' : mM) (i' : Nat), v.1 = 0 → i' ≤ i + (e - s) → MS M0 z m U Ab0 Be0 C0 M' (t + 1) cc → mtq m M M' → plq M M' m t → ptq M' m t v.2.1 v.2.2 → h_Ma_run_14 G (d + 3) m (e : Int) (i' : Int) M' Q) →
  (∀ M' : mM, v.1 ≠ 0 → mI M' m 1 = v.1 → mI M' m 2 = v.2.1 → (∃ t2, MS M0 z m U Ab0 Be0 C0 M' t2 cc) → mtq m M M' → Q 0 M') → h_Ma_run_14 G (d + 3) m (s : Int) (i : Int) M Q
theorem vgd.un {k : Int} {v : vrs} (h : vgd k v) (h0 : v.1 = 0) : v.2.1.natAbs ≤ 999999999 ∧ (1 ≤ v.2.2 ∧ v.2.2 ≤ 999999999) ∧ Int.gcd v.2.1 v.2.2 = 1 := by
  rcases h with h | h
  · exact ⟨h.2.1, h.2.2.1, h.2.2.2.1⟩
  · omega
/-- two values and an order -/
theorem rcp_two {v1 v2 : vrs} {k1 k2 : Int} {s a b : Nat} (hF : FMx G) (hE : Rnv M0 z m Ab0 Be0 p O P K L) (hsa : s < a) (hab : a < b) (hb : b + 1 ≤ L) (o : mI M0 O b = 15 ∨ mI M0 O b = 16 ∨ (19 ≤ mI M0 O b ∧ mI M0 O b ≤ 29)) (g1 : vgd k1 v1) (g2 : vgd k2 v2) (r1 : Rcp G d M0 z m U Ab0 Be0 C0 cc v1 s a) (r2 : Rcp G d M0 z m U Ab0 Be0 C0 cc v2 a b) : Rcp G d M0 z m U Ab0 Be0 C0 cc (vbd v1 (fun x1 y1 => vbd v2 (fun x2 y2 => v2q (mI M0 O b) x1 y1 x2 y2 (mI M0 P b)))) s (b + 1) := by
  intro t i M Q ht hi hM next flt
  refine r1 t i M Q (by omega) (by omega) hM (fun M1 i1 z1 l1 h1 b1 p1 t1 => ?_) (fun M1 z1 e1 e2 h1 b1 => ?_)
  · rw [vbd_0 z1] at next flt
    refine r2 (t + 1) i1 M1 Q (by omega) (by omega) h1 (fun M2 i2 z2 l2 h2 b2 p2 t2 => ?_) (fun M2 z2 e1 e2 h2 b2 => ?_)
    · rw [vbd_0 z2] at next flt
      obtain ⟨x1, x2, x3⟩ := g1.un z1
      obtain ⟨y1, y2, y3⟩ := g2.un z2
      refine run_cmp hE (by omega) (by omega) h2 (by omega) (fun io ix => x_Ma_compute2 (s := t) hF io ix o h2 (p2.pt (by omega) t1) t2 x1 y1 x3 y3) (fun z3 M3 h3 b3 p3 t3 => ?_) (fun z3 M3 e1 e2 h3 b3 => ?_)
      · exact next M3 (i2 + 1) z3 (by omega) h3 ((b1.trans b2).trans b3) ((p1.trans (p2.mono (by omega))).trans p3) t3
      · exact flt M3 z3 e1 e2 h3 ((b1.trans b2).trans b3)
    · rw [vbd_1 z2] at flt
      exact flt M2 z2 e1 e2 h2 (b1.trans b2)
  · rw [vbd_1 z1] at flt
    exact flt M1 z1 e1 e2 h1 b1
theorem run_all (hF : FMx G) (hE : Rnv M0 z m Ab0 Be0 p O P K L) (hlf : ∀ k, (w k = 1 ∨ w k = 2 ∨ w k = 12 ∨ w k = 13) → (w k = 1 → E k ≠ -1) → Lfo M0 p w E cv ec k) : ∀ (n c i j : Nat), 2 * (j - i) + c ≤ n → Eoc w c i j → (fl w E pl c i j).1 = 0 → (c = 1 → kdq w E 1 i j ≠ 1) → ∀ (x y x' : Int) (s e : Nat), (c = 1 → x = x' + 1 ∧ (x = 15 ∨ x = 16)) → Cd w ec pl (mI M0 O) (mI M0 P) c x y i j s e → e ≤ L → Rcp G d M0 z m U Ab0 Be0 C0 cc (vlq w cv pl c x' i j) s e := by
  have vok := vl_ok (w := w) (E := E) (pl := pl) (cv := cv) (fun k h1 h2 => (hlf k h1 h2).1)
  have n0 : ∀ {i j : Nat}, (0 : Nat) = 1 → kdq w E 1 i j ≠ 1 := fun u => absurd u (by decide)
  have m0 : ∀ {x x' : Int}, (0 : Nat) = 1 → x = x' + 1 ∧ (x = 15 ∨ x = 16) := fun u => absurd u (by decide)
  refine Eo_ind (P := fun c i j => (fl w E pl c i j).1 = 0 → (c = 1 → kdq w E 1 i j ≠ 1) → ∀ (x y x' : Int) (s e : Nat), (c = 1 → x = x' + 1 ∧ (x = 15 ∨ x = 16)) → Cd w ec pl (mI M0 O) (mI M0 P) c x y i j s e → e ≤ L → Rcp G d M0 z m U Ab0 Be0 C0 cc (vlq w cv pl c x' i j) s e) ?_ ?_ ?_ ?_ ?_ ?_ ?_ ?_
  · intro i m1 q j h1 h2 h3 h4 h5 h6 h7 h8 _ _ _ i1 i2 i3 hf _ x y x' s e _ hc he
    rw [fl_ask h1 h2 h3 h6 h8, fst9_1, fst9_1, fst9_1] at hf
    obtain ⟨⟨⟨f1, f2⟩, f3⟩, -⟩ := hf
    rw [Cd_ask h1 h2 h3 h6 h8] at hc
    obtain ⟨a, b, c1, o1, p1, c2, o2, p2, c3⟩ := hc
    have l1 := c1.lt
    have l2 := c2.lt
    have l3 := c3.lt
    rw [vl_ask h1 h2 h3 h6 h8]
    intro t k M Q ht hk hM next flt
    refine i1 f1 n0 0 0 0 s a m0 c1 (by omega) t k M Q (by omega) (by omega) hM (fun M1 k1 z1 l1 g1 b1 p1' t1 => ?_) (fun M1 z1 e1 e2 g1 b1 => ?_)
    · rw [vbd_0 z1] at next flt
      refine run_ask (tt := b + 1) hE (by omega) (by omega) g1 o1 (by rw [p1]; omega) t1 (fun az M2 g2 b2 p2' => ?_) (fun az M2 g2 b2 p2' => ?_)
      · rw [if_pos az] at next flt
        exact i3 f3 n0 0 0 0 (b + 1) e m0 c3 he t (k1 + 1) M2 Q (by omega) (by omega) g2 (fun M3 k3 z3 l3 g3 b3 p3 t3 => next M3 k3 z3 (by omega) g3 ((b1.trans b2).trans b3) ((p1'.trans p2').trans p3) t3) (fun M3 z3 e1 e2 g3 b3 => flt M3 z3 e1 e2 g3 ((b1.trans b2).trans b3))
      · rw [if_neg az] at next flt
        refine i2 f2 n0 0 0 0 (a + 1) b m0 c2 (by omega) t (k1 + 1) M2 Q (by omega) (by omega) g2 (fun M3 k3 z3 l3 g3 b3 p3 t3 => ?_) (fun M3 z3 e1 e2 g3 b3 => flt M3 z3 e1 e2 g3 ((b1.trans b2).trans b3))
        exact run_els (tt := e) hE (by omega) (by omega) g3 o2 p2 (next M3 (k3 + 1) z3 (by omega) g3 ((b1.trans b2).trans b3) ((p1'.trans p2').trans p3) t3)
    · rw [vbd_1 z1] at flt
      exact flt M1 z1 e1 e2 g1 b1
  · intro i m1 j h1 h2 h3 h4 eo1 eo2 i1 i2 hf _ x y x' s e _ hc he
    rw [fl_bin h1 h2 h3 (by omega), fst9_1, fst9_1] at hf
    obtain ⟨⟨f1, f2⟩, -⟩ := hf
    by_cases c29 : w m1 = 29 ∨ w m1 = 30
    · rw [Cd_jmp h1 h2 h3 c29] at hc
      obtain ⟨a, c1, o1, p1, c2⟩ := hc
      have l1 := c1.lt
      have l2 := c2.lt
      intro t k M Q ht hk hM next flt
      refine i1 f1 n0 0 0 0 s a m0 c1 (by omega) t k M Q (by omega) (by omega) hM (fun M1 k1 z1 l1 g1 b1 p1' t1 => ?_) (fun M1 z1 e1 e2 g1 b1 => ?_)
      · refine run_jmp (tt := e) hE (by omega) (by omega) g1 (by omega) p1 t1 (fun yy M2 g2 b2 p2' => ?_) (fun yy M2 g2 b2 p2' => ?_)
        · have ev : vlq w cv pl 0 x' i j = (0, (vlq w cv pl 0 0 i m1).2.1, (vlq w cv pl 0 0 i m1).2.2) := by
            rcases c29 with c | c
            · rw [vl_and h1 h2 h3 c, vbd_0 z1, if_pos (yy.mp (by omega))]
            · rw [vl_or h1 h2 h3 c, vbd_0 z1, if_neg (fun u => absurd (yy.mpr u) (by omega))]
          rw [ev] at next
          exact next M2 (k1 + 1) rfl (by omega) g2 (b1.trans b2) (p1'.trans (p2'.mono (by omega))) (p2'.pt (by omega) t1)
        · have ev : vlq w cv pl 0 x' i j = vlq w cv pl 0 0 (m1 + 1) j := by
            rcases c29 with c | c
            · rw [vl_and h1 h2 h3 c, vbd_0 z1, if_neg (fun u => yy ⟨fun _ => u, fun _ => by omega⟩)]
            · rw [vl_or h1 h2 h3 c, vbd_0 z1, if_pos (Classical.byContradiction (fun u => yy ⟨fun v => absurd v (by omega), fun v => absurd v u⟩))]
          rw [ev] at next flt
          exact i2 f2 n0 0 0 0 (a + 1) e m0 c2 he t (k1 + 1) M2 Q (by omega) (by omega) g2 (fun M3 k3 z3 l3 g3 b3 p3 t3 => next M3 k3 z3 (by omega) g3 ((b1.trans b2).trans b3) ((p1'.trans p2').trans p3) t3) (fun M3 z3 e1 e2 g3 b3 => flt M3 z3 e1 e2 g3 ((b1.trans b2).trans b3))
      · have ev : vlq w cv pl 0 x' i j = vlq w cv pl 0 0 i m1 := by
          rcases c29 with c | c
          · rw [vl_and h1 h2 h3 c, vbd_1 z1]
          · rw [vl_or h1 h2 h3 c, vbd_1 z1]
        rw [ev] at flt
        exact flt M1 z1 e1 e2 g1 b1
    · rw [Cd_bin h1 h2 h3 (by omega) (by omega) (by omega)] at hc
      obtain ⟨a, b, c1, c2, rfl, o1, p1⟩ := hc
      have l1 := c1.lt
      have l2 := c2.lt
      have g1 := vok _ 0 i m1 (Nat.le_refl _) (Or.inl ⟨rfl, eo1⟩) f1 n0 0
      have g2 := vok _ 0 (m1 + 1) j (Nat.le_refl _) (Or.inl ⟨rfl, eo2⟩) f2 n0 0
      have r := rcp_two hF hE l1 l2 he (by omega) g1 g2 (i1 f1 n0 0 0 0 s a m0 c1 (by omega)) (i2 f2 n0 0 0 0 a b m0 c2 (by omega))
      rw [vl_bin h1 h2 h3 (by omega) (by omega) (by omega)]
      have ev : ∀ x1 y1 x2 y2 : Int, v2q (mI M0 O b) x1 y1 x2 y2 (mI M0 P b) = vop (w m1) x1 y1 x2 y2 (pl m1) := fun x1 y1 x2 y2 => by
        unfold v2q
        rw [if_neg (by omega), o1, p1, show w m1 + 1 - 1 = w m1 by omega]
      simp only [ev] at r
      exact r
  · intro i j h1 h2 h3 _ _ i1 hf _ x y x' s e _ hc he
    rw [fl_par h1 h2 h3] at hf
    rw [Cd_par h1 h2 h3] at hc
    rw [vl_par h1 h2 h3]
    exact i1 hf n0 0 0 0 s e m0 hc he
  · intro i j h1 h2 h3 eo1 i1 hf _ x y x' s e _ hc he
    rw [Cd_pre h1 h2 h3] at hc
    obtain ⟨b, c1, rfl, o1, p1⟩ := hc
    have l1 := c1.lt
    have f1 : (fl w E pl 0 (i + 1) j).1 = 0 := by
      rcases h3 with h3 | h3
      · rw [fl_neg h1 h2 h3, fst9_1] at hf; exact hf.1
      · rw [fl_not h1 h2 h3, fst9_1] at hf; exact hf.1
    have g1 := vok _ 0 (i + 1) j (Nat.le_refl _) (Or.inl ⟨rfl, eo1⟩) f1 n0 0
    have ev : vlq w cv pl 0 x' i j = vbd (vlq w cv pl 0 0 (i + 1) j) (fun a b => if w i = 25 then (0, -a, b) else (0, 1 - a, b)) := by
      rcases h3 with h3 | h3
      · rw [vl_neg h1 h2 h3]; simp only [h3, if_true]
      · rw [vl_not h1 h2 h3]; simp only [h3, Int.reduceEq, if_false]
    rw [ev]
    intro t k M Q ht hk hM next flt
    refine i1 f1 n0 0 0 0 s b m0 c1 (by omega) t k M Q (by omega) (by omega) hM (fun M1 k1 z1 l1 g1' b1 p1' t1 => ?_) (fun M1 z1 e1 e2 g1' b1 => ?_)
    · rw [vbd_0 z1] at next flt
      have oo : mI M0 O b = 40 ∨ mI M0 O b = 41 := by rw [o1]; split <;> simp
      have o25 : mI M0 O b = 40 ↔ w i = 25 := by rw [o1]; split <;> simp_all
      refine run_cmp hE (by omega) (by omega) g1' (by omega) (fun io ix => x_Ma_compute1 (x := mI M0 P b) io ix oo g1' t1 (g1.un z1).1) (fun z3 M3 h3 b3 p3 t3 => ?_) (fun z3 M3 e1 e2 h3 b3 => ?_)
      · simp only [o25] at t3
        exact next M3 (k1 + 1) (by split <;> rfl) (by omega) h3 (b1.trans b3) (p1'.trans p3) t3
      · exact absurd (by split <;> rfl) z3
    · rw [vbd_1 z1] at flt
      exact flt M1 z1 e1 e2 g1' b1
  · intro i h1 h3 hf _ x y x' s e _ hc he
    rw [fl_leaf h1 (by omega) h3] at hf
    have hne : w i = 1 → E i ≠ -1 := fun a b => by rw [if_pos ⟨a, b⟩] at hf; exact absurd hf (by simp)
    obtain ⟨-, hl⟩ := hlf i h3 hne
    rw [Cd_leaf h1 (by omega) h3] at hc
    obtain ⟨rfl, o1, p1⟩ := hc
    rw [vl_leaf h1 (by omega) h3]
    intro t k M Q ht hk hM next flt
    rcases hl with ⟨q1, q2⟩ | ⟨q1, xx, q2, q3, q4, q5⟩
    · rw [q2] at next
      refine run_num hE (by omega) (by omega) hM (by omega) (by rw [o1]; exact q1) (fun M1 g1 b1 p1' t1 => next M1 (k + 1) rfl (by omega) g1 b1 p1' (by rw [← p1]; exact t1))
    · rw [q5] at next
      exact run_cst hE (by omega) (by omega) hM (by omega) (by rw [o1]; exact q1) (by rw [p1]; exact q2) q3 q4 (fun M1 g1 b1 p1' t1 => next M1 (k + 1) rfl (by omega) g1 b1 p1' t1)
  · intro i j h1 h2 h3 _ _ i1 hf _ x y x' s e _ hc he
    rw [fl_lst h1 h2 h3, fst9_1, kft_1] at hf
    rw [Cd_lst h1 h2 h3] at hc
    rw [vl_lst h1 h2 h3]
    exact i1 hf.1 (fun _ => by rw [hf.2]; decide) (w i + 1) (pl i) (w i) s e (fun _ => ⟨rfl, by omega⟩) hc he
  · intro i j h1 h2 _ i1 hf _ x y x' s e _ hc he
    rw [fl_l1 h1 h2] at hf
    rw [Cd_l1 h1 h2] at hc
    rw [vl_l1 h1 h2]
    exact i1 hf n0 0 0 0 s e m0 hc he
  · intro i m1 j h1 h2 h3 h4 h5 eo1 eo2 i1 i2 hf hz x y x' s e hx hc he
    obtain ⟨hx1, hx2⟩ := hx rfl
    rw [fl_ln h1 h4 h2, fst9_1] at hf
    have cz : ¬ (kdq w E 1 i m1 = 1 ∨ kdq w E 0 (m1 + 1) j = 1) := fun c => hz rfl (by rw [kd_ln h1 h4 h2, if_pos c])
    rw [Cd_ln h1 h4 h2] at hc
    obtain ⟨a, b, c1, c2, rfl, o1, p1⟩ := hc
    have l1 := c1.lt
    have l2 := c2.lt
    have z1 : (1 : Nat) = 1 → kdq w E 1 i m1 ≠ 1 := fun _ u => cz (Or.inl u)
    have g1 := vok _ 1 i m1 (Nat.le_refl _) (Or.inr ⟨rfl, eo1⟩) hf.1 z1 x'
    have g2 := vok _ 0 (m1 + 1) j (Nat.le_refl _) (Or.inl ⟨rfl, eo2⟩) hf.2 n0 0
    have r := rcp_two hF hE l1 l2 he (by omega) g1 g2 (i1 hf.1 z1 x y x' s a (fun _ => ⟨hx1, hx2⟩) c1 (by omega)) (i2 hf.2 n0 0 0 0 a b m0 c2 (by omega))
    rw [vl_ln h1 h4 h2]
    have ev : ∀ x1 y1 x2 y2 : Int, v2q (mI M0 O b) x1 y1 x2 y2 (mI M0 P b) = vbs x' x1 y1 x2 y2 := fun x1 y1 x2 y2 => by
      unfold v2q
      rw [if_pos (by omega), o1, show x - 1 = x' by omega]
    simp only [ev] at r
    exact r
theorem run_end {M : mM} {t i pc : Nat} {Q : Int → mM → Prop} (hE : Rnv M0 z m Ab0 Be0 p O P K L) (hpc : pc < L) (hi : i < 1000000) (hM : MS M0 z m U Ab0 Be0 C0 M t 0) (o : mI M0 O pc = 0) (fin : Q 1 M) : h_Ma_run_14 G (d + 3) m (pc : Int) (i : Int) M Q := by
  obtain ⟨hp, hm0, ha, hL, hLK, hLn⟩ := hE
  obtain ⟨ok, k0, h8, -⟩ := hM.pile
  obtain ⟨hp1, hr0, iO, iP, iT⟩ := hM.prog hp hm0 ha
  obtain ⟨pk, ⟨pr0, pr1⟩, ⟨kO, kP, nO, nP⟩, -⟩ := id hp1
  have l2 : mI M p 2 = L := by rw [show p = p + 0 by omega, iT 0 (by omega)]; exact hL
  have no : ¬ ((1000000 : Int) ≤ (i : Int) ∨ ((pc : Int) < 0 ∨ mI M (mR M m 0) 2 ≤ (pc : Int))) := by rw [hr0, l2]; omega
  have h15 : mI M m 15 = 0 := by
    obtain ⟨_, _, _, -, -, -, -, -, -, h15, -⟩ := id hM
    exact h15
  refine k_Ma_run_14 ok (i32s (by omega) (by omega)) ⟨by omega, by omega⟩ ⟨fun _ _ => ⟨k0, by rw [hr0]; exact pk⟩, fun y => absurd y no, fun _ => ?_⟩
  rw [hr0, pr0, pr1, nO, nP, iO, iP, Int.toNat_natCast]
  exact ⟨k0, pk, kO, by omega, kP, by omega, fun _ => ⟨fun _ => fin, fun u => absurd h15 u⟩, fun u => absurd o u⟩
/-- what a rule of consts comes to -/
def rnx (m : Nat) (v : vrs) (r : Int) (M' : mM) : Prop := (r = 0 ∧ v.1 ≠ 0 ∧ mI M' m 1 = v.1 ∧ mI M' m 2 = v.2.1) ∨ (r = 1 ∧ v.1 = 0 ∧ ptq M' m 0 v.2.1 v.2.2)
theorem x_Ma_run {X : Nat → Prop} {i j s e : Nat} (hF : FMx G) (ok : mOk M0) (hk : MK M0 z m U Ab0 Be0 C0) (hT : MT M0 m X) (hE : Rnv M0 z m Ab0 Be0 p O P K L) (hlf : ∀ k, (w k = 1 ∨ w k = 2 ∨ w k = 12 ∨ w k = 13) → (w k = 1 → E k ≠ -1) → Lfo M0 p w E cv ec k) (eo : Eo w 6 i j) (hf : (fl w E pl 0 i j).1 = 0) (hc : Cd w ec pl (mI M0 O) (mI M0 P) 0 0 0 i j s e) (he : e < L) (oe : mI M0 O e = 0) : Ci G y_Ma_run (d + 4) [vr m, vi s] M0 (fun r M' => rnQ M0 z m U Ab0 Be0 C0 X 1 r M' ∧ rnx m (vlq w cv pl 0 0 i j) r M') := by
  have c64 := hk.2.2.2.2.2.2.2
  have hLn := hE.2.2.2.2.2
  have lse := hc.lt
  refine k_Ma_run ok (i32s (by omega) (by omega)) ⟨hk.1, fun M2 e2 M4 e4 => ?_⟩
  have f2 : FI (fun b => b = m) M0 M2 := by rw [e2]; exact FI.ui rfl
  have f4 : FI (fun b => b = m) M2 M4 := by rw [e4]; exact FI.ui rfl
  have ff := f2.trans f4
  have g : ∀ i, mI M4 m i = if i = 15 then 0 else if i = 8 then 0 else mI M0 m i := fun i => by
    rw [mI_ui m i e4]
    by_cases y : i = 15
    · rw [if_pos ⟨rfl, y⟩, if_pos y]
    · rw [if_neg (fun q => y q.2), if_neg y, mI_ui m i e2]
      by_cases y8 : i = 8
      · rw [if_pos ⟨rfl, y8⟩, if_pos y8]
      · rw [if_neg (fun q => y8 q.2), if_neg y8]
  have o4 : mOk M4 := by rw [e4]; exact mOk_UI (by rw [e2]; exact mOk_UI ok (i32s (by omega) (by omega))) (i32s (by omega) (by omega))
  have hM : MS M0 z m U Ab0 Be0 C0 M4 0 0 := ms_step (M := M0) (t' := 0) (c' := 0) o4 hk FA.refl ⟨Or.inl rfl, Or.inl rfl⟩ ⟨rfl, Nat.le_refl _⟩ ⟨rfl, rfl, rfl⟩ (ff.mono (fun _ q => Or.inl q)) (by rw [g, if_neg (by decide), if_neg (by decide)]) (by rw [g, if_neg (by decide), if_neg (by decide)]) (by rw [g, if_neg (by decide), if_pos rfl]; rfl) (by omega) (fun j hj => absurd hj (by omega)) (by rw [g, if_pos rfl]; rfl)
  have hb : mtq m M0 M4 := mtq.fi ff
  have hT4 : MT M4 m X := hT.mtb hb.mtb (by rw [g, if_neg (by decide), if_neg (by decide)])
  refine run_all (cv := cv) hF hE hlf _ 0 i j (Nat.le_refl _) (Or.inl ⟨rfl, eo⟩) hf (fun u => absurd u (by decide)) 0 0 0 s e (fun u => absurd u (by decide)) hc (by omega) 0 0 M4 _ (by omega) (by omega) hM (fun M' i' z1 l1 h1 b1 _ t1 => ?_) (fun M' z1 e1 e2 h1 b1 => ?_)
  · exact run_end hE he (by omega) h1 oe ⟨⟨hT4.mtb b1.mtb (by rw [h1.nine, hM.nine]), Or.inr ⟨rfl, h1⟩⟩, Or.inr ⟨rfl, z1, t1⟩⟩
  · obtain ⟨t2, h2⟩ := h1
    exact ⟨⟨hT4.mtb b1.mtb (by rw [h2.nine, hM.nine]), Or.inl ⟨rfl, by rw [e1]; exact z1, t2, 0, h2⟩⟩, Or.inl ⟨rfl, z1, e1, e2⟩⟩
end RUY
end
section
/-! What a text of items means: pure. w kinds of words, pl places, nq numbers, sm words with the same letters, N how many words. -/
/-- a name: its word, its sort (1 const, 2 formula, 3 var), its kind (1 a truth), a const's value -/
abbrev nm9 : Type := Nat × Nat × Int × vrs
/-- names; how many vars, rules, commands, targets; the first fault -/
abbrev st9 : Type := List nm9 × (Nat × Nat × Nat × Nat) × (Int × Int)
section ITP
variable (w pl nq : Nat → Int) (sm : Nat → Nat → Prop) (N : Nat)
noncomputable def fnd9 (nms : List nm9) (k : Nat) : Option nm9 := nms.find? (fun e => @decide (sm e.1 k) (Classical.propDecidable _))
/-- the kind of the word k as a name; co = 1: consts alone; -1: unknown -/
noncomputable def E9 (nms : List nm9) (co : Int) (k : Nat) : Int := match fnd9 sm nms k with
  | none => -1
  | some e => if co = 1 ∧ e.2.1 ≠ 1 then -1 else e.2.2.1
/-- what the word k is worth -/
noncomputable def cv9 (nms : List nm9) (k : Nat) : vrs := if w k = 1 then (match fnd9 sm nms k with
  | none => (0, 0, 1)
  | some e => e.2.2.2) else if w k = 2 then (0, nq k, 1) else if w k = 12 then (0, 1, 1) else (0, 0, 1)
/-- the fault of a rule that must be a truth (tr = 1) or a number (tr = 0) -/
noncomputable def rf9 (nms : List nm9) (co tr : Int) (i j : Nat) : Int × Int := fst9 (fl w (E9 sm nms co) pl 0 i j) (kft (kdq w (E9 sm nms co) 0 i j = tr) (pl i))
/-- the first x from k on, within f words -/
def nxq (x : Int) : Nat → Nat → Nat
  | 0, k => k
  | f + 1, k => if w k = x then k else nxq x f (k + 1)
/-- the ')' that closes what begins at i -/
def cp1 (i : Nat) : Nat → Nat → Nat
  | 0, m => m
  | f + 1, m => if dp w i m = 0 ∧ w (i + m) = 37 then m else cp1 i f (m + 1)
def cpq (i j : Nat) : Nat := i + cp1 w i (j - i) 0
/-- a const's value, a whole one if it must be one: fault or (0, value) -/
def wh9 (v : vrs) (p : Int) : Int × Int := if v.1 ≠ 0 then (v.1, v.2.1) else if v.2.2 ≠ 1 then (8, p) else (0, 0)
/-- a const or a formula -/
noncomputable def itr (k e : Nat) (s : st9) : st9 :=
  let co : Int := if w k = 3 then 1 else 0
  let f := fl w (E9 sm s.1 co) pl 0 (k + 3) e
  let v : vrs := if w k = 3 then vlq w (cv9 w nq sm s.1) pl 0 0 (k + 3) e else (0, 0, 1)
  if s.2.1.2.1 = 60 then (s.1, s.2.1, (5, pl k))
  else if fnd9 sm s.1 (k + 1) ≠ none then (s.1, s.2.1, (2, pl (k + 1)))
  else if f.1 ≠ 0 then (s.1, s.2.1, f)
  else if v.1 ≠ 0 then (s.1, s.2.1, (v.1, v.2.1))
  else (s.1 ++ [(k + 1, (if w k = 3 then 1 else 2), kdq w (E9 sm s.1 co) 0 (k + 3) e, v)], (s.2.1.1, s.2.1.2.1 + 1, s.2.1.2.2), (0, 0))
/-- a var: the faults of its rules -/
noncomputable def vf9 (nms : List nm9) (k e rg ini : Nat) : Int × Int := fst9 (fst9 (if w (k + 3) = 5 then (0, 0) else fst9 (rf9 w pl sm nms 1 0 (k + 3) rg) (rf9 w pl sm nms 1 0 (rg + 1) ini)) (if w ini = 9 then rf9 w pl sm nms 1 (if w (k + 3) = 5 then 1 else 0) (ini + 1) e else (0, 0))) (0, 0)
/-- a var: the faults of its values -/
noncomputable def vw9 (nms : List nm9) (k e rg ini : Nat) : Int × Int :=
  let lo := vlq w (cv9 w nq sm nms) pl 0 0 (k + 3) rg
  let hi := vlq w (cv9 w nq sm nms) pl 0 0 (rg + 1) ini
  let be := vlq w (cv9 w nq sm nms) pl 0 0 (ini + 1) e
  fst9 (if w (k + 3) = 5 then (0, 0) else fst9 (fst9 (wh9 lo (pl (k + 3))) (wh9 hi (pl (rg + 1)))) (if lo.2.1 ≤ hi.2.1 ∧ hi.2.1 - lo.2.1 < 10000 then (0, 0) else (9, pl (rg + 1))))
    (if w ini = 9 then (if w (k + 3) = 5 then wh9 be (pl (ini + 1)) else fst9 (wh9 be (pl (ini + 1))) (if lo.2.1 ≤ be.2.1 ∧ be.2.1 ≤ hi.2.1 then (0, 0) else (9, pl (ini + 1)))) else (0, 0))
noncomputable def itv (k e : Nat) (s : st9) : st9 :=
  let rg := nxq w 16 N (k + 3)
  let ini := if w (k + 3) = 5 then k + 4 else nxq w 9 (e - (k + 3)) (k + 3)
  if s.2.1.1 = 12 then (s.1, s.2.1, (5, pl k))
  else if fnd9 sm s.1 (k + 1) ≠ none then (s.1, s.2.1, (2, pl (k + 1)))
  else if (vf9 w pl sm s.1 k e rg ini).1 ≠ 0 then (s.1, s.2.1, vf9 w pl sm s.1 k e rg ini)
  else if (vw9 w pl nq sm s.1 k e rg ini).1 ≠ 0 then (s.1, s.2.1, vw9 w pl nq sm s.1 k e rg ini)
  else (s.1 ++ [(k + 1, 3, (if w (k + 3) = 5 then 1 else 0), (0, 0, 1))], (s.2.1.1 + 1, s.2.1.2), (0, 0))
noncomputable def itt (k e : Nat) (s : st9) : st9 :=
  let f := rf9 w pl sm s.1 0 1 (k + 1) e
  if s.2.1.2.2.2 ≠ 0 then (s.1, s.2.1, (4, pl k))
  else if f.1 ≠ 0 then (s.1, s.2.1, f)
  else (s.1, (s.2.1.1, s.2.1.2.1, s.2.1.2.2.1, 1), (0, 0))
/-- the sets of a branch, from k on: the first fault, and where they end -/
noncomputable def sef (nms : List nm9) : Nat → Nat → List Nat → (Int × Int) × Nat
  | 0, k, _ => ((0, 0), k)
  | f + 1, k, seen => match fnd9 sm nms (k + 1) with
    | none => ((2, pl (k + 1)), k)
    | some e => if e.2.1 ≠ 3 then ((2, pl (k + 1)), k) else if e.1 ∈ seen then ((4, pl (k + 1)), k)
      else if (rf9 w pl sm nms 0 e.2.2.1 (k + 4) (cpq w (k + 4) N)).1 ≠ 0 then (rf9 w pl sm nms 0 e.2.2.1 (k + 4) (cpq w (k + 4) N), k)
      else if w (cpq w (k + 4) N + 1) = 29 then sef nms f (cpq w (k + 4) N + 2) (e.1 :: seen) else ((0, 0), cpq w (k + 4) N + 1)
/-- the branches of a command, from the word i on; b have been read; the item ends at e -/
noncomputable def brf (nms : List nm9) (e : Nat) : Nat → Nat → Nat → Int × Int
  | 0, _, _ => (0, 0)
  | f + 1, i, b => if e ≤ i then (0, 0) else if b = 8 then (5, pl i)
    else if (rf9 w pl sm nms 0 0 i (clq w (i - 1) N)).1 ≠ 0 then rf9 w pl sm nms 0 0 i (clq w (i - 1) N)
    else if w (clq w (i - 1) N + 1) = 10 then brf nms e f (clq w (i - 1) N + 3) (b + 1)
    else if (sef w pl sm N nms N (clq w (i - 1) N + 1) []).1.1 ≠ 0 then (sef w pl sm N nms N (clq w (i - 1) N + 1) []).1
    else brf nms e f ((sef w pl sm N nms N (clq w (i - 1) N + 1) []).2 + 1) (b + 1)
/-- a command; mc how many there may be -/
noncomputable def itc (mc k e : Nat) (s : st9) : st9 :=
  let ar := nxq w 17 N (k + 1)
  let f := fst9 (rf9 w pl sm s.1 0 1 (k + 1) ar) (brf w pl sm N s.1 e N (ar + 1) 0)
  if s.2.1.2.2.1 = mc then (s.1, s.2.1, (5, pl k))
  else if f.1 ≠ 0 then (s.1, s.2.1, f)
  else (s.1, (s.2.1.1, s.2.1.2.1, s.2.1.2.2.1 + 1, s.2.1.2.2.2), (0, 0))
/-- the item at k -/
noncomputable def ite9 (mc k : Nat) (s : st9) : st9 :=
  let e := nxq w 34 N k
  if w k = 3 ∨ w k = 6 then itr w pl nq sm k e s else if w k = 4 then itv w pl nq sm N k e s else if w k = 11 then itt w pl sm k e s else itc w pl sm N mc k e s
/-- all items from k on -/
noncomputable def its9 (mc : Nat) : Nat → Nat → st9 → st9
  | 0, _, s => s
  | f + 1, k, s => if s.2.2.1 ≠ 0 then s else if w k = 0 then (if s.2.1.2.2.2 = 0 then (s.1, s.2.1, (10, pl k)) else s) else its9 mc f (nxq w 34 N k + 1) (ite9 w pl nq sm N mc k s)
end ITP
section ITQ
variable {w pl nq : Nat → Int} {sm : Nat → Nat → Prop} {N : Nat}
theorem nxq_at {x : Int} : ∀ {f k e : Nat}, k ≤ e → e ≤ k + f → w e = x → (∀ j, k ≤ j → j < e → w j ≠ x) → nxq w x f k = e
  | 0, k, e, h1, h2, _, _ => by show k = e; omega
  | f + 1, k, e, h1, h2, h3, h4 => by
    unfold nxq
    by_cases c : k = e
    · subst c
      rw [if_pos h3]
    · rw [if_neg (h4 k (Nat.le_refl _) (by omega))]
      exact nxq_at (by omega) (by omega) h3 (fun j a b => h4 j (by omega) b)
theorem nxq_no {x : Int} : ∀ {f k : Nat}, (∀ j, k ≤ j → j < k + f → w j ≠ x) → nxq w x f k = k + f
  | 0, k, _ => rfl
  | f + 1, k, h => by
    unfold nxq
    rw [if_neg (h k (Nat.le_refl _) (by omega)), nxq_no (fun j a b => h j (by omega) (by omega))]
    omega
theorem cp1_at {i l : Nat} (b : Bl w i l) (h : w (i + l) = 37) : ∀ f m, m ≤ l → l ≤ m + f → cp1 w i f m = l
  | 0, m, h1, h2 => by show m = l; omega
  | f + 1, m, h1, h2 => by
    unfold cp1
    by_cases e : m = l
    · rw [if_pos ⟨by rw [e]; exact b.1, by rw [e]; exact h⟩]; exact e
    · rw [if_neg]
      · exact cp1_at b h f (m + 1) (by omega) (by omega)
      · intro ⟨q1, q2⟩
        have := (b.2.2.1 (m + 1) (by omega)).1
        rw [dp_s, q1, if_neg (by omega), if_pos q2] at this
        omega
theorem cpq_at {i j N : Nat} (he : Eo w 6 i j) (h : w j = 37) (hj : j < N) : cpq w i N = j := by
  have p := he.pr
  have := p.1
  unfold cpq
  rw [cp1_at (l := j - i) p.2.2.2.2.1 (by rw [show i + (j - i) = j by omega]; exact h) _ _ (by omega) (by omega)]
  omega
end ITQ
end
