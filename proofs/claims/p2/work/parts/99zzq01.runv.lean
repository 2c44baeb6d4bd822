section
section
/-! The class's machine, exactly: rules with vars and formulas. -/
section QAF
variable {G : mG} {d z m U Ab0 Be0 C0 cc p O P K L F0 H s0 : Nat} {M0 : mM} {w E pl : Nat → Int} {cv : Nat → vrs} {ec : Nat → Int × Int} {fv : Nat → vrs} {ns : Nat → Int} {sf ef : Nat → Nat} {X : Nat → Prop}
/-- met formulas hold their values -/
def MVp (m : Nat) (fv : Nat → vrs) (ns : Nat → Int) (F0 : Nat) (M : mM) : Prop := ∀ x, x < F0 → ns x = 7 → mI M (m + 5) x = mI M m 9 → fv x = (0, mI M (m + 6) x, mI M (m + 7) x)
/-- steps that are kept for formulas not yet met -/
def ptl (m : Nat) (ns : Nat → Int) (sf ef : Nat → Nat) (M : mM) : Nat → Nat
  | 0 => 0
  | x + 1 => ptl m ns sf ef M x + (if ns x = 7 ∧ mI M (m + 5) x ≠ mI M m 9 then ef x - sf x + 2 else 0)
theorem ptl_cg {M M' : mM} (h9 : mI M' m 9 = mI M m 9) : ∀ F : Nat, (∀ x, x < F → mI M' (m + 5) x = mI M (m + 5) x) → ptl m ns sf ef M' F = ptl m ns sf ef M F
  | 0, _ => rfl
  | F + 1, h => by
    rw [ptl.eq_2, ptl.eq_2 m ns sf ef M, ptl_cg h9 F (fun x hx => h x (by omega)), h F (by omega), h9]
theorem ptl_pos {M : mM} {x : Nat} (hx : ns x = 7) (hu : mI M (m + 5) x ≠ mI M m 9) : ∀ F : Nat, x < F → ptl m ns sf ef M x + (ef x - sf x + 2) ≤ ptl m ns sf ef M F
  | 0, h => absurd h (by omega)
  | F + 1, h => by
    rw [ptl.eq_2]
    by_cases y : x = F
    · rw [← y, if_pos ⟨hx, hu⟩]
      exact Nat.le_refl _
    · have a := ptl_pos hx hu F (by omega)
      omega
theorem ptl_two {M M' : mM} {x : Nat} (h9 : mI M' m 9 = mI M m 9) (hx : ns x = 7) (hu : mI M (m + 5) x ≠ mI M m 9) (hm : mI M' (m + 5) x = mI M' m 9) (hs : ∀ y, x < y → mI M' (m + 5) y = mI M (m + 5) y) : ∀ F : Nat, x < F → ptl m ns sf ef M' F + ptl m ns sf ef M x + (ef x - sf x + 2) = ptl m ns sf ef M F + ptl m ns sf ef M' x
  | 0, h => absurd h (by omega)
  | F + 1, h => by
    rw [ptl.eq_2, ptl.eq_2 m ns sf ef M]
    by_cases y : x = F
    · rw [← y, if_neg (fun u => u.2 hm), if_pos ⟨hx, hu⟩]
      omega
    · have a := ptl_two h9 hx hu hm hs F (by omega)
      rw [hs F (by omega), h9]
      omega
theorem ptl_le {M : mM} (h : ∀ x, x < F0 → ns x = 7 → ef x ≤ 16384) : ∀ F : Nat, F ≤ F0 → ptl m ns sf ef M F ≤ 16386 * F
  | 0, _ => Nat.zero_le _
  | F + 1, hF => by
    rw [ptl.eq_2]
    have a := ptl_le (M := M) h F (by omega)
    by_cases y : ns F = 7 ∧ mI M (m + 5) F ≠ mI M m 9
    · rw [if_pos y]
      have := h F (by omega) y.1
      omega
    · rw [if_neg y]
      omega
/-- open calls below cc, and stamps from H on, are as they were -/
def cbk (m cc H : Nat) (M M' : mM) : Prop := (∀ i, i < cc → mI M' (m + 8) i = mI M (m + 8) i ∧ mI M' (m + 9) i = mI M (m + 9) i) ∧ (∀ y, H ≤ y → mI M' (m + 5) y = mI M (m + 5) y) ∧ mI M' (m + 2) = mI M (m + 2)
theorem cbk.trans {M M1 M2 : mM} (h : cbk m cc H M M1) (k : cbk m cc H M1 M2) : cbk m cc H M M2 := ⟨fun i hi => ⟨(k.1 i hi).1.trans (h.1 i hi).1, (k.1 i hi).2.trans (h.1 i hi).2⟩, fun y hy => (k.2.1 y hy).trans (h.2.1 y hy), k.2.2.trans h.2.2⟩
theorem cbk.mtb {M M' : mM} (b : mtq m M M') : cbk m cc H M M' := ⟨fun i _ => ⟨by rw [b (m + 8) (by omega)], by rw [b (m + 9) (by omega)]⟩, fun y _ => by rw [b (m + 5) (by omega)], b (m + 2) (Or.inl rfl)⟩
/-- the machine under way, and what it has met -/
def MSv (M0 : mM) (z m U Ab0 Be0 C0 : Nat) (fv : Nat → vrs) (ns : Nat → Int) (F0 : Nat) (X : Nat → Prop) (M : mM) (t c : Nat) : Prop := MS M0 z m U Ab0 Be0 C0 M t c ∧ MVp m fv ns F0 M ∧ MT M m X
theorem MSv.of {M M' : mM} {t t' c : Nat} (h : MSv M0 z m U Ab0 Be0 C0 fv ns F0 X M t c) (k : MS M0 z m U Ab0 Be0 C0 M' t' c) (b : mtq m M M') : MSv M0 z m U Ab0 Be0 C0 fv ns F0 X M' t' c ∧ cbk m c H M M' ∧ ptl m ns sf ef M' H = ptl m ns sf ef M H := by
  have e9 : mI M' m 9 = mI M m 9 := by rw [k.nine, h.1.nine]
  refine ⟨⟨k, fun x hx h7 u => ?_, h.2.2.mtb b.mtb e9⟩, cbk.mtb b, ptl_cg e9 H (fun x _ => by rw [b (m + 5) (by omega)])⟩
  rw [b (m + 5) (by omega), e9] at u
  rw [b (m + 6) (by omega), b (m + 7) (by omega)]
  exact h.2.1 x hx h7 u
/-- how a rule's orders run: v its value, cc calls are open, formulas below H may be met, the rule's orders begin at s0 -/
def Rcv (G : mG) (d : Nat) (M0 : mM) (z m U Ab0 Be0 C0 : Nat) (fv : Nat → vrs) (ns : Nat → Int) (sf ef : Nat → Nat) (F0 : Nat) (X : Nat → Prop) (cc H s0 : Nat) (v : vrs) (s e : Nat) : Prop := ∀ (t i : Nat) (M : mM) (Q : Int → mM → Prop), t + (e - s) + s0 ≤ 16384 → i + (e - s) + ptl m ns sf ef M H ≤ 1000000 → MSv M0 z m U Ab0 Be0 C0 fv ns F0 X M t cc →
  (∀ (M' : mM) (i' : Nat), v.1 = 0 → i' + ptl m ns sf ef M' H ≤ i + (e - s) + ptl m ns sf ef M H → MSv M0 z m U Ab0 Be0 C0 fv ns F0 X M' (t + 1) cc → cbk m cc H M M' → plq M M' m t → ptq M' m t v.2.1 v.2.2 → h_Ma_run_14 G (d + 3) m (e : Int) (i' : Int) M' Q) →
  (∀ M' : mM, v.1 ≠ 0 → mI M' m 1 = v.1 → mI M' m 2 = v.2.1 → (∃ t2 c2, MS M0 z m U Ab0 Be0 C0 M' t2 c2) → (MVp m fv ns F0 M' ∧ MT M' m X) → Q 0 M') → h_Ma_run_14 G (d + 3) m (s : Int) (i : Int) M Q
/-- two values and an order -/
theorem rcv_two {v1 v2 : vrs} {k1 k2 : Int} {s a b : Nat} (hF : FMx G) (hE : Rnv M0 z m Ab0 Be0 p O P K L) (hsa : s < a) (hab : a < b) (hb : b + 1 ≤ L) (o : mI M0 O b = 15 ∨ mI M0 O b = 16 ∨ (19 ≤ mI M0 O b ∧ mI M0 O b ≤ 29)) (g1 : vgd k1 v1) (g2 : vgd k2 v2) (r1 : Rcv G d M0 z m U Ab0 Be0 C0 fv ns sf ef F0 X cc H s0 v1 s a) (r2 : Rcv G d M0 z m U Ab0 Be0 C0 fv ns sf ef F0 X cc H s0 v2 a b) : Rcv G d M0 z m U Ab0 Be0 C0 fv ns sf ef F0 X cc H s0 (vbd v1 (fun x1 y1 => vbd v2 (fun x2 y2 => v2q (mI M0 O b) x1 y1 x2 y2 (mI M0 P b)))) s (b + 1) := by
  intro t i M Q ht hi hM next flt
  refine r1 t i M Q (by omega) (by omega) hM (fun M1 i1 z1 l1 h1 b1 p1 t1 => ?_) (fun M1 z1 e1 e2 h1 b1 => ?_)
  · rw [vbd_0 z1] at next flt
    refine r2 (t + 1) i1 M1 Q (by omega) (by omega) h1 (fun M2 i2 z2 l2 h2 b2 p2 t2 => ?_) (fun M2 z2 e1 e2 h2 b2 => ?_)
    · rw [vbd_0 z2] at next flt
      obtain ⟨x1, x2, x3⟩ := g1.un z1
      obtain ⟨y1, y2, y3⟩ := g2.un z2
      refine run_cmp hE (by omega) (by omega) h2.1 (by omega) (fun io ix => x_Ma_compute2 (s := t) hF io ix o h2.1 (p2.pt (by omega) t1) t2 x1 y1 x3 y3) (fun z3 M3 h3 b3 p3 t3 => ?_) (fun z3 M3 e1 e2 h3 b3 => ?_)
      · obtain ⟨h3, b3, v3⟩ := h2.of (H := H) (sf := sf) (ef := ef) h3 b3
        exact next M3 (i2 + 1) z3 (by omega) h3 ((b1.trans b2).trans b3) ((p1.trans (p2.mono (by omega))).trans p3) t3
      · obtain ⟨t3, h3⟩ := h3
        obtain ⟨h4, -, -⟩ := h2.of (H := H) (sf := sf) (ef := ef) h3 b3
        exact flt M3 z3 e1 e2 ⟨t3, _, h3⟩ h4.2
    · rw [vbd_1 z2] at flt
      exact flt M2 z2 e1 e2 h2 b2
  · rw [vbd_1 z1] at flt
    exact flt M1 z1 e1 e2 h1 b1
theorem run_allv (hF : FMx G) (hE : Rnv M0 z m Ab0 Be0 p O P K L) (hlf : ∀ k, (w k = 1 ∨ w k = 2 ∨ w k = 12 ∨ w k = 13) → (w k = 1 → E k ≠ -1) → vgd (if w k = 12 ∨ w k = 13 ∨ (w k = 1 ∧ E k = 1) then 1 else 0) (cv k) ∧ ∀ s, s < L → mI M0 O s = (ec k).1 → mI M0 P s = (ec k).2 → Rcv G d M0 z m U Ab0 Be0 C0 fv ns sf ef F0 X cc H s0 (cv k) s (s + 1)) : ∀ (n c i j : Nat), 2 * (j - i) + c ≤ n → Eoc w c i j → (fl w E pl c i j).1 = 0 → (c = 1 → kdq w E 1 i j ≠ 1) → ∀ (x y x' : Int) (s e : Nat), (c = 1 → x = x' + 1 ∧ (x = 15 ∨ x = 16)) → Cd w ec pl (mI M0 O) (mI M0 P) c x y i j s e → e ≤ L → Rcv G d M0 z m U Ab0 Be0 C0 fv ns sf ef F0 X cc H s0 (vlq w cv pl c x' i j) s e := by
  have vok := vl_ok (w := w) (E := E) (pl := pl) (cv := cv) (fun k h1 h2 => (hlf k h1 h2).1)
  have n0 : ∀ {i j : Nat}, (0 : Nat) = 1 → kdq w E 1 i j ≠ 1 := fun u => absurd u (by decide)
  have m0 : ∀ {x x' : Int}, (0 : Nat) = 1 → x = x' + 1 ∧ (x = 15 ∨ x = 16) := fun u => absurd u (by decide)
  refine Eo_ind (P := fun c i j => (fl w E pl c i j).1 = 0 → (c = 1 → kdq w E 1 i j ≠ 1) → ∀ (x y x' : Int) (s e : Nat), (c = 1 → x = x' + 1 ∧ (x = 15 ∨ x = 16)) → Cd w ec pl (mI M0 O) (mI M0 P) c x y i j s e → e ≤ L → Rcv G d M0 z m U Ab0 Be0 C0 fv ns sf ef F0 X cc H s0 (vlq w cv pl c x' i j) s e) ?_ ?_ ?_ ?_ ?_ ?_ ?_ ?_
  · intro i m1 q j h1 h2 h3 h4 h5 h6 h7 h8 _ _ _ i1 i2 i3 hf _ x y x' s e _ hc he
    rw [fl_ask h1 h2 h3 h6 h8, fst9_1, fst9_1, fst9_1] at hf
    obtain ⟨⟨⟨f1, f2⟩, f3⟩, -⟩ := hf
    rw [Cd_ask h1 h2 h3 h6 h8] at hc
    obtain ⟨a, b, c1, o1, p1, c2, o2, p2, c3⟩ := hc
    have l1 := c1.lt
    have l2 := c2.lt
    have l3 := c3.lt
    rw [vl_ask h1 h2 h3 h6 h8]
    intro t k M Q ht hk hM next flt
    refine i1 f1 n0 0 0 0 s a m0 c1 (by omega) t k M Q (by omega) (by omega) hM (fun M1 k1 z1 l1 g1 b1 p1' t1 => ?_) (fun M1 z1 e1 e2 g1 b1 => ?_)
    · rw [vbd_0 z1] at next flt
      refine run_ask (tt := b + 1) hE (by omega) (by omega) g1.1 o1 (by rw [p1]; omega) t1 (fun az M2 g2 b2 p2' => ?_) (fun az M2 g2 b2 p2' => ?_)
      · obtain ⟨g2, b2, v2⟩ := g1.of (H := H) (sf := sf) (ef := ef) g2 b2
        rw [if_pos az] at next flt
        exact i3 f3 n0 0 0 0 (b + 1) e m0 c3 he t (k1 + 1) M2 Q (by omega) (by omega) g2 (fun M3 k3 z3 l3 g3 b3 p3 t3 => next M3 k3 z3 (by omega) g3 ((b1.trans b2).trans b3) ((p1'.trans p2').trans p3) t3) (fun M3 z3 e1 e2 g3 b3 => flt M3 z3 e1 e2 g3 b3)
      · obtain ⟨g2, b2, v2⟩ := g1.of (H := H) (sf := sf) (ef := ef) g2 b2
        rw [if_neg az] at next flt
        refine i2 f2 n0 0 0 0 (a + 1) b m0 c2 (by omega) t (k1 + 1) M2 Q (by omega) (by omega) g2 (fun M3 k3 z3 l3 g3 b3 p3 t3 => ?_) (fun M3 z3 e1 e2 g3 b3 => flt M3 z3 e1 e2 g3 b3)
        exact run_els (tt := e) hE (by omega) (by omega) g3.1 o2 p2 (next M3 (k3 + 1) z3 (by omega) g3 ((b1.trans b2).trans b3) ((p1'.trans p2').trans p3) t3)
    · rw [vbd_1 z1] at flt
      exact flt M1 z1 e1 e2 g1 b1
  · intro i m1 j h1 h2 h3 h4 eo1 eo2 i1 i2 hf _ x y x' s e _ hc he
    rw [fl_bin h1 h2 h3 (by omega), fst9_1, fst9_1] at hf
    obtain ⟨⟨f1, f2⟩, -⟩ := hf
    by_cases c29 : w m1 = 29 ∨ w m1 = 30
    · rw [Cd_jmp h1 h2 h3 c29] at hc
      obtain ⟨a, c1, o1, p1, c2⟩ := hc
      have l1 := c1.lt
      have l2 := c2.lt
      intro t k M Q ht hk hM next flt
      refine i1 f1 n0 0 0 0 s a m0 c1 (by omega) t k M Q (by omega) (by omega) hM (fun M1 k1 z1 l1 g1 b1 p1' t1 => ?_) (fun M1 z1 e1 e2 g1 b1 => ?_)
      · refine run_jmp (tt := e) hE (by omega) (by omega) g1.1 (by omega) p1 t1 (fun yy M2 g2 b2 p2' => ?_) (fun yy M2 g2 b2 p2' => ?_)
        · obtain ⟨g2, b2, v2⟩ := g1.of (H := H) (sf := sf) (ef := ef) g2 b2
          have ev : vlq w cv pl 0 x' i j = (0, (vlq w cv pl 0 0 i m1).2.1, (vlq w cv pl 0 0 i m1).2.2) := by
            rcases c29 with c | c
            · rw [vl_and h1 h2 h3 c, vbd_0 z1, if_pos (yy.mp (by omega))]
            · rw [vl_or h1 h2 h3 c, vbd_0 z1, if_neg (fun u => absurd (yy.mpr u) (by omega))]
          rw [ev] at next
          exact next M2 (k1 + 1) rfl (by omega) g2 (b1.trans b2) (p1'.trans (p2'.mono (by omega))) (p2'.pt (by omega) t1)
        · obtain ⟨g2, b2, v2⟩ := g1.of (H := H) (sf := sf) (ef := ef) g2 b2
          have ev : vlq w cv pl 0 x' i j = vlq w cv pl 0 0 (m1 + 1) j := by
            rcases c29 with c | c
            · rw [vl_and h1 h2 h3 c, vbd_0 z1, if_neg (fun u => yy ⟨fun _ => u, fun _ => by omega⟩)]
            · rw [vl_or h1 h2 h3 c, vbd_0 z1, if_pos (Classical.byContradiction (fun u => yy ⟨fun v => absurd v (by omega), fun v => absurd v u⟩))]
          rw [ev] at next flt
          exact i2 f2 n0 0 0 0 (a + 1) e m0 c2 he t (k1 + 1) M2 Q (by omega) (by omega) g2 (fun M3 k3 z3 l3 g3 b3 p3 t3 => next M3 k3 z3 (by omega) g3 ((b1.trans b2).trans b3) ((p1'.trans p2').trans p3) t3) (fun M3 z3 e1 e2 g3 b3 => flt M3 z3 e1 e2 g3 b3)
      · have ev : vlq w cv pl 0 x' i j = vlq w cv pl 0 0 i m1 := by
          rcases c29 with c | c
          · rw [vl_and h1 h2 h3 c, vbd_1 z1]
          · rw [vl_or h1 h2 h3 c, vbd_1 z1]
        rw [ev] at flt
        exact flt M1 z1 e1 e2 g1 b1
    · rw [Cd_bin h1 h2 h3 (by omega) (by omega) (by omega)] at hc
      obtain ⟨a, b, c1, c2, rfl, o1, p1⟩ := hc
      have l1 := c1.lt
      have l2 := c2.lt
      have g1 := vok _ 0 i m1 (Nat.le_refl _) (Or.inl ⟨rfl, eo1⟩) f1 n0 0
      have g2 := vok _ 0 (m1 + 1) j (Nat.le_refl _) (Or.inl ⟨rfl, eo2⟩) f2 n0 0
      have r := rcv_two hF hE l1 l2 he (by omega) g1 g2 (i1 f1 n0 0 0 0 s a m0 c1 (by omega)) (i2 f2 n0 0 0 0 a b m0 c2 (by omega))
      rw [vl_bin h1 h2 h3 (by omega) (by omega) (by omega)]
      have ev : ∀ x1 y1 x2 y2 : Int, v2q (mI M0 O b) x1 y1 x2 y2 (mI M0 P b) = vop (w m1) x1 y1 x2 y2 (pl m1) := fun x1 y1 x2 y2 => by
        unfold v2q
        rw [if_neg (by omega), o1, p1, show w m1 + 1 - 1 = w m1 by omega]
      simp only [ev] at r
      exact r
  · intro i j h1 h2 h3 _ _ i1 hf _ x y x' s e _ hc he
    rw [fl_par h1 h2 h3] at hf
    rw [Cd_par h1 h2 h3] at hc
    rw [vl_par h1 h2 h3]
    exact i1 hf n0 0 0 0 s e m0 hc he
  · intro i j h1 h2 h3 eo1 i1 hf _ x y x' s e _ hc he
    rw [Cd_pre h1 h2 h3] at hc
    obtain ⟨b, c1, rfl, o1, p1⟩ := hc
    have l1 := c1.lt
    have f1 : (fl w E pl 0 (i + 1) j).1 = 0 := by
      rcases h3 with h3 | h3
      · rw [fl_neg h1 h2 h3, fst9_1] at hf; exact hf.1
      · rw [fl_not h1 h2 h3, fst9_1] at hf; exact hf.1
    have g1 := vok _ 0 (i + 1) j (Nat.le_refl _) (Or.inl ⟨rfl, eo1⟩) f1 n0 0
    have ev : vlq w cv pl 0 x' i j = vbd (vlq w cv pl 0 0 (i + 1) j) (fun a b => if w i = 25 then (0, -a, b) else (0, 1 - a, b)) := by
      rcases h3 with h3 | h3
      · rw [vl_neg h1 h2 h3]; simp only [h3, if_true]
      · rw [vl_not h1 h2 h3]; simp only [h3, Int.reduceEq, if_false]
    rw [ev]
    intro t k M Q ht hk hM next flt
    refine i1 f1 n0 0 0 0 s b m0 c1 (by omega) t k M Q (by omega) (by omega) hM (fun M1 k1 z1 l1 g1' b1 p1' t1 => ?_) (fun M1 z1 e1 e2 g1' b1 => ?_)
    · rw [vbd_0 z1] at next flt
      have oo : mI M0 O b = 40 ∨ mI M0 O b = 41 := by rw [o1]; split <;> simp
      have o25 : mI M0 O b = 40 ↔ w i = 25 := by rw [o1]; split <;> simp_all
      refine run_cmp hE (by omega) (by omega) g1'.1 (by omega) (fun io ix => x_Ma_compute1 (x := mI M0 P b) io ix oo g1'.1 t1 (g1.un z1).1) (fun z3 M3 h3 b3 p3 t3 => ?_) (fun z3 M3 e1 e2 h3 b3 => ?_)
      · obtain ⟨h3, b3, v3⟩ := g1'.of (H := H) (sf := sf) (ef := ef) h3 b3
        simp only [o25] at t3
        exact next M3 (k1 + 1) (by split <;> rfl) (by omega) h3 (b1.trans b3) (p1'.trans p3) t3
      · exact absurd (by split <;> rfl) z3
    · rw [vbd_1 z1] at flt
      exact flt M1 z1 e1 e2 g1' b1
  · intro i h1 h3 hf _ x y x' s e _ hc he
    rw [fl_leaf h1 (by omega) h3] at hf
    have hne : w i = 1 → E i ≠ -1 := fun a b => by rw [if_pos ⟨a, b⟩] at hf; exact absurd hf (by simp)
    obtain ⟨-, hl⟩ := hlf i h3 hne
    rw [Cd_leaf h1 (by omega) h3] at hc
    obtain ⟨rfl, o1, p1⟩ := hc
    rw [vl_leaf h1 (by omega) h3]
    exact hl s (by omega) o1 p1
  · intro i j h1 h2 h3 _ _ i1 hf _ x y x' s e _ hc he
    rw [fl_lst h1 h2 h3, fst9_1, kft_1] at hf
    rw [Cd_lst h1 h2 h3] at hc
    rw [vl_lst h1 h2 h3]
    exact i1 hf.1 (fun _ => by rw [hf.2]; decide) (w i + 1) (pl i) (w i) s e (fun _ => ⟨rfl, by omega⟩) hc he
  · intro i j h1 h2 _ i1 hf _ x y x' s e _ hc he
    rw [fl_l1 h1 h2] at hf
    rw [Cd_l1 h1 h2] at hc
    rw [vl_l1 h1 h2]
    exact i1 hf n0 0 0 0 s e m0 hc he
  · intro i m1 j h1 h2 h3 h4 h5 eo1 eo2 i1 i2 hf hz x y x' s e hx hc he
    obtain ⟨hx1, hx2⟩ := hx rfl
    rw [fl_ln h1 h4 h2, fst9_1] at hf
    have cz : ¬ (kdq w E 1 i m1 = 1 ∨ kdq w E 0 (m1 + 1) j = 1) := fun c => hz rfl (by rw [kd_ln h1 h4 h2, if_pos c])
    rw [Cd_ln h1 h4 h2] at hc
    obtain ⟨a, b, c1, c2, rfl, o1, p1⟩ := hc
    have l1 := c1.lt
    have l2 := c2.lt
    have z1 : (1 : Nat) = 1 → kdq w E 1 i m1 ≠ 1 := fun _ u => cz (Or.inl u)
    have g1 := vok _ 1 i m1 (Nat.le_refl _) (Or.inr ⟨rfl, eo1⟩) hf.1 z1 x'
    have g2 := vok _ 0 (m1 + 1) j (Nat.le_refl _) (Or.inl ⟨rfl, eo2⟩) hf.2 n0 0
    have r := rcv_two hF hE l1 l2 he (by omega) g1 g2 (i1 hf.1 z1 x y x' s a (fun _ => ⟨hx1, hx2⟩) c1 (by omega)) (i2 hf.2 n0 0 0 0 a b m0 c2 (by omega))
    rw [vl_ln h1 h4 h2]
    have ev : ∀ x1 y1 x2 y2 : Int, v2q (mI M0 O b) x1 y1 x2 y2 (mI M0 P b) = vbs x' x1 y1 x2 y2 := fun x1 y1 x2 y2 => by
      unfold v2q
      rw [if_pos (by omega), o1, show x - 1 = x' by omega]
    simp only [ev] at r
    exact r
/-- a number's order -/
theorem rcv_num {s : Nat} (hE : Rnv M0 z m Ab0 Be0 p O P K L) (hs : s < L) (o : mI M0 O s = 3) : Rcv G d M0 z m U Ab0 Be0 C0 fv ns sf ef F0 X cc H s0 (0, mI M0 P s, 1) s (s + 1) := by
  intro t i M Q ht hi hM next flt
  refine run_num hE hs (by omega) hM.1 (by omega) o (fun M1 g1 b1 p1 t1 => ?_)
  obtain ⟨g1, b1, v1⟩ := hM.of (H := H) (sf := sf) (ef := ef) g1 b1
  exact next M1 (i + 1) rfl (by omega) g1 b1 p1 t1
/-- a const's order -/
theorem rcv_cst {s x : Nat} (hE : Rnv M0 z m Ab0 Be0 p O P K L) (hs : s < L) (o : mI M0 O s = 4) (ox : mI M0 P s = x) (hx : x < 60) (hv : 1 ≤ mI M0 (p + 7) x ∧ mI M0 (p + 7) x < 1000000000) : Rcv G d M0 z m U Ab0 Be0 C0 fv ns sf ef F0 X cc H s0 (0, mI M0 (p + 6) x, mI M0 (p + 7) x) s (s + 1) := by
  intro t i M Q ht hi hM next flt
  refine run_cst hE hs (by omega) hM.1 (by omega) o ox hx hv (fun M1 g1 b1 p1 t1 => ?_)
  obtain ⟨g1, b1, v1⟩ := hM.of (H := H) (sf := sf) (ef := ef) g1 b1
  exact next M1 (i + 1) rfl (by omega) g1 b1 p1 t1
/-- a var's order -/
theorem rcv_var {s x : Nat} (hE : Rnv M0 z m Ab0 Be0 p O P K L) (hs : s < L) (o : mI M0 O s = 5) (ox : mI M0 P s = x) (hx : x < 12) (hU : ¬ mcS m Ab0 Be0 U ∧ U < mZ M0) : Rcv G d M0 z m U Ab0 Be0 C0 fv ns sf ef F0 X cc H s0 (0, mI M0 U ((mI M0 m 4).toNat + x), 1) s (s + 1) := by
  intro t i M Q ht hi hM next flt
  refine run_var hE hs (by omega) hM.1 (by omega) o ox hx hU (fun M1 g1 b1 p1 t1 => ?_)
  obtain ⟨g1, b1, v1⟩ := hM.of (H := H) (sf := sf) (ef := ef) g1 b1
  exact next M1 (i + 1) rfl (by omega) g1 b1 p1 t1
/-- a formula's order: it is met already, or its own orders run -/
theorem rcv_frm {s x : Nat} (hE : Rnv M0 z m Ab0 Be0 p O P K L) (hs : s < L) (o : mI M0 O s = 7) (ox : mI M0 P s = x) (h7 : ns x = 7) (hx : x < F0) (hF0 : F0 ≤ 60) (hxH : x < H) (hc : cc ≤ 59) (hX : X x) (h8 : mI M0 (p + 8) x = sf x) (hse : sf x < ef x) (heL : ef x < L) (oe : mI M0 O (ef x) = 0) (hs0 : ef x < s0) (rc : Rcv G d M0 z m U Ab0 Be0 C0 fv ns sf ef F0 X (cc + 1) x (sf x) (fv x) (sf x) (ef x)) : Rcv G d M0 z m U Ab0 Be0 C0 fv ns sf ef F0 X cc H s0 (fv x) s (s + 1) := by
  have hL := hE.2.2.2.2.2
  intro t i M Q ht hi hM next flt
  have n9 := hM.1.nine
  refine run_frm hE hs (by omega) hM.1 (by omega) o ox (by omega) (by omega) (hM.2.2 x hX).2 h8 (by omega) (fun u M1 g1 b1 p1 t1 => ?_) (fun u M1 g1 s5 s62 s7 s8 s9 p1 => ?_)
  · obtain ⟨g1, b1, v1⟩ := hM.of (H := H) (sf := sf) (ef := ef) g1 b1
    have ev := hM.2.1 x hx h7 u
    rw [ev] at next
    exact next M1 (i + 1) rfl (by omega) g1 b1 p1 t1
  · obtain ⟨s6, s2⟩ := s62
    have e9 : mI M1 m 9 = mI M m 9 := by rw [g1.nine, n9]
    have g1' : MSv M0 z m U Ab0 Be0 C0 fv ns F0 X M1 t (cc + 1) := ⟨g1, fun y hy hy7 w => by
      rw [s5, e9] at w
      rw [s6, s7]
      exact hM.2.1 y hy hy7 w, fun y hy => by
      rw [s5, s7, e9]
      exact hM.2.2 y hy⟩
    have v1 : ptl m ns sf ef M1 x = ptl m ns sf ef M x := ptl_cg e9 x (fun y _ => by rw [s5])
    have pb := ptl_pos (sf := sf) (ef := ef) h7 u H hxH
    refine rc t (i + 1) M1 Q (by omega) (by omega) g1' (fun M2 i2 z2 l2 g2 b2 p2 t2 => ?_) (fun M2 z2 e1 e2 g2 b2 => flt M2 z2 e1 e2 g2 b2)
    have c8 : mI M2 (m + 8) cc = x := by rw [(b2.1 cc (by omega)).1, s8, if_pos rfl]
    have c9 : mI M2 (m + 9) cc = ((s + 1 : Nat) : Int) := by rw [(b2.1 cc (by omega)).2, s9, if_pos rfl]
    have m9 : mI M2 m 9 = mI M m 9 := by rw [g2.1.nine, n9]
    refine run_back hE heL (by omega) g2.1 oe c8 (by omega) (by omega) c9 (by omega) (fun M3 g3 w3 w4 w5 w6 w7 w8 p3 w2 w9 => ?_)
    have k9 : mI M3 m 9 = mI M2 m 9 := by rw [g3.nine, g2.1.nine]
    have ev : fv x = (0, mI M3 (m + 6) x, mI M3 (m + 7) x) := by
      rw [w7.1, w7.2, t2.1, t2.2]
      exact Prod.ext z2 rfl
    have g3' : MSv M0 z m U Ab0 Be0 C0 fv ns F0 X M3 (t + 1) cc := ⟨g3, fun y hy hy7 w => by
      by_cases yx : y = x
      · rw [yx]; exact ev
      · rw [w5, if_neg yx, k9] at w
        rw [w6 y yx, w8 y yx]
        exact g2.2.1 y hy hy7 w, fun y hy => by
      by_cases yx : y = x
      · rw [yx, w5, if_pos rfl, k9]
        exact ⟨Int.le_refl _, fun _ => w9⟩
      · rw [w5, if_neg yx, w6 y yx, k9]
        exact g2.2.2 y hy⟩
    have q3 : ptl m ns sf ef M3 x = ptl m ns sf ef M2 x := ptl_cg k9 x (fun y hy => by rw [w5, if_neg (by omega)])
    have pm := ptl_two (sf := sf) (ef := ef) (M := M) (M' := M3) (k9.trans m9) h7 u (by rw [w5, if_pos rfl, k9]) (fun y hy => by rw [w5, if_neg (by omega), b2.2.1 y (by omega), s5]) H hxH
    refine next M3 (i2 + 1) z2 (by omega) g3' ⟨fun j hj => ⟨?_, ?_⟩, fun y hy => ?_, by rw [w2, b2.2.2, s2]⟩ ((p1.trans p2).trans (p3.mono (by omega))) (p3.pt (by omega) t2)
    · rw [w3, (b2.1 j (by omega)).1, s8, if_neg (by omega)]
    · rw [w4, (b2.1 j (by omega)).2, s9, if_neg (by omega)]
    · rw [w5, if_neg (by omega), b2.2.1 y (by omega), s5]
end QAF
end
section
/-! The class's machine, exactly: formulas, a whole rule. -/
section QAG
variable {G : mG} {d z m U Ab0 Be0 C0 cc p O P K L F0 H s0 : Nat} {M0 : mM} {w E pl : Nat → Int} {cv : Nat → vrs} {ec : Nat → Int × Int} {fv : Nat → vrs} {ns : Nat → Int} {sf ef : Nat → Nat} {X : Nat → Prop}
/-- what a leaf's order pushes; formulas below H may stand there -/
def Lfq (M0 : mM) (p m U : Nat) (fv : Nat → vrs) (ns : Nat → Int) (H : Nat) (w E : Nat → Int) (cv : Nat → vrs) (ec : Nat → Int × Int) (k : Nat) : Prop := vgd (if w k = 12 ∨ w k = 13 ∨ (w k = 1 ∧ E k = 1) then 1 else 0) (cv k) ∧ (((ec k).1 = 3 ∧ cv k = (0, (ec k).2, 1)) ∨ ((ec k).1 = 4 ∧ ∃ x : Nat, (ec k).2 = x ∧ x < 60 ∧ (1 ≤ mI M0 (p + 7) x ∧ mI M0 (p + 7) x < 1000000000) ∧ cv k = (0, mI M0 (p + 6) x, mI M0 (p + 7) x)) ∨ ((ec k).1 = 5 ∧ ∃ x : Nat, (ec k).2 = x ∧ x < 12 ∧ cv k = (0, mI M0 U ((mI M0 m 4).toNat + x), 1)) ∨ ((ec k).1 = 7 ∧ ∃ x : Nat, (ec k).2 = x ∧ x < H ∧ ns x = 7 ∧ cv k = fv x))
/-- a formula: where its orders lie, and what it is worth -/
def Frq (M0 : mM) (p m U O P L : Nat) (pl w : Nat → Int) (fv : Nat → vrs) (ns : Nat → Int) (sf ef : Nat → Nat) (X : Nat → Prop) (x : Nat) : Prop := X x ∧ mI M0 (p + 8) x = sf x ∧ sf x < ef x ∧ ef x < L ∧ mI M0 O (ef x) = 0 ∧ (∀ y, y < x → ns y = 7 → ef y < sf x) ∧ ∃ (i j : Nat) (E : Nat → Int) (cv : Nat → vrs) (ec : Nat → Int × Int), Eo w 6 i j ∧ (fl w E pl 0 i j).1 = 0 ∧ Cd w ec pl (mI M0 O) (mI M0 P) 0 0 0 i j (sf x) (ef x) ∧ fv x = vlq w cv pl 0 0 i j ∧ ∀ k, (w k = 1 ∨ w k = 2 ∨ w k = 12 ∨ w k = 13) → (w k = 1 → E k ≠ -1) → Lfq M0 p m U fv ns x w E cv ec k
theorem lfq_rc {k : Nat} (hE : Rnv M0 z m Ab0 Be0 p O P K L) (hF0 : F0 ≤ 60) (hH : H ≤ F0) (hc : 1 ≤ H → cc ≤ 59) (hU : ¬ mcS m Ab0 Be0 U ∧ U < mZ M0) (hy : ∀ x, x < H → ns x = 7 → ef x < s0) (sub : ∀ x, x < H → ns x = 7 → Frq M0 p m U O P L pl w fv ns sf ef X x ∧ Rcv G d M0 z m U Ab0 Be0 C0 fv ns sf ef F0 X (cc + 1) x (sf x) (fv x) (sf x) (ef x)) (hl : Lfq M0 p m U fv ns H w E cv ec k) : vgd (if w k = 12 ∨ w k = 13 ∨ (w k = 1 ∧ E k = 1) then 1 else 0) (cv k) ∧ ∀ s, s < L → mI M0 O s = (ec k).1 → mI M0 P s = (ec k).2 → Rcv G d M0 z m U Ab0 Be0 C0 fv ns sf ef F0 X cc H s0 (cv k) s (s + 1) := by
  obtain ⟨g, hl⟩ := hl
  refine ⟨g, fun s hs o1 p1 => ?_⟩
  rcases hl with ⟨q1, q2⟩ | ⟨q1, x, q2, q3, q4, q5⟩ | ⟨q1, x, q2, q3, q4⟩ | ⟨q1, x, q2, q3, q4, q5⟩
  · rw [q2, ← p1]
    exact rcv_num hE hs (o1.trans q1)
  · rw [q5]
    exact rcv_cst hE hs (o1.trans q1) (p1.trans q2) q3 q4
  · rw [q4]
    exact rcv_var hE hs (o1.trans q1) (p1.trans q2) q3 hU
  · rw [q5]
    obtain ⟨⟨f1, f2, f3, f4, f5, -⟩, rc⟩ := sub x q3 q4
    exact rcv_frm hE hs (o1.trans q1) (p1.trans q2) q4 (by omega) hF0 q3 (hc (by omega)) f1 f2 f3 f4 f5 (hy x q3 q4) rc
theorem frm_rc (hF : FMx G) (hE : Rnv M0 z m Ab0 Be0 p O P K L) (hF0 : F0 ≤ 60) (hU : ¬ mcS m Ab0 Be0 U ∧ U < mZ M0) (fr : ∀ x, x < F0 → ns x = 7 → Frq M0 p m U O P L pl w fv ns sf ef X x) : ∀ x, x < F0 → ns x = 7 → ∀ cc, cc + x ≤ 60 → Rcv G d M0 z m U Ab0 Be0 C0 fv ns sf ef F0 X cc x (sf x) (fv x) (sf x) (ef x) := by
  intro x
  induction x using Nat.strongRecOn with
  | ind x ih =>
    intro hx h7 cc hcc
    obtain ⟨-, -, fse, feL, -, fy, i, j, E, cv, ec, eo, hfl, hcd, ev, lf⟩ := fr x hx h7
    rw [ev]
    exact run_allv hF hE (fun k h1 h2 => lfq_rc hE hF0 (by omega) (fun u => by omega) hU fy (fun y hy hy7 => ⟨fr y (by omega) hy7, ih y hy (by omega) hy7 (cc + 1) (by omega)⟩) (lf k h1 h2)) _ 0 i j (Nat.le_refl _) (Or.inl ⟨rfl, eo⟩) hfl (fun u => absurd u (by decide)) 0 0 0 (sf x) (ef x) (fun u => absurd u (by decide)) hcd (by omega)
end QAG
end
end
section
section
/-! The class's machine, exactly: what is set. -/
section QAH
variable {G : mG} {d z m U Ab0 Be0 C0 t c p O P K L i pc : Nat} {M0 M : mM} {a b : Int} {Q : Int → mM → Prop}
/-- the fault of a number that is set -/
def stfq (a b lo hi x : Int) : Int × Int := if b ≠ 1 then (8, x) else if a < lo ∨ hi < a then (12, x) else (0, 0)
/-- a number is set, or a fault is told -/
def setQ9 (M0 : mM) (z m U Ab0 Be0 C0 : Nat) (M : mM) (t c : Nat) (f : Int × Int) (v : Nat) (a : Int) (r : Int) (M' : mM) : Prop := ((r = 0 ∧ f.1 ≠ 0 ∧ mI M' m 1 = f.1 ∧ mI M' m 2 = f.2) ∨ (r = 1 ∧ f.1 = 0 ∧ plq M M' m t ∧ ∀ j, mI M' (m + 2) j = if j = v then a else mI M (m + 2) j)) ∧ MS M0 z m U Ab0 Be0 C0 M' t c ∧ mtb m M M'
theorem x_Ma_store {x : Int} {v : Nat} (ix : i32 x) (hv : v < 12) (h : MS M0 z m U Ab0 Be0 C0 M (t + 1) c) (hp : PK M z p O P K) (h0 : mR M m 0 = p) (mp : p + 15 < m ∨ m + 9 < p) (h1 : ptq M m t a b) : Ci G y_Ma_store (d + 1) [vr m, vi x, vi v] M (setQ9 M0 z m U Ab0 Be0 C0 M t c (stfq a b (mI M (p + 3) v) (mI M (p + 4) v) x) v a) := by
  obtain ⟨ok, k0, h8, kA, kB, tA, tB, bA, bB, hb, ⟨mA, mB⟩, ne⟩ := h.pile
  refine k_Ma_store ok ix (i32s (by omega) (by omega)) ⟨k0, ⟨by omega, by omega⟩, fun M3 e3 => ?_⟩
  obtain ⟨h3, b3, f3⟩ := ms_top (t' := t) h (by omega) (by omega) e3
  obtain ⟨ok3, k03, h83, kA3, kB3, tA3, tB3, bA3, bB3, hb3, -, -⟩ := h3.pile
  have hp3 := hp.fi f3
  have h03 : mR M3 m 0 = p := by rw [f3.2.2.1]; exact h0
  have hm5 : mR M3 m 5 = m + 2 ∧ mK M3 (m + 2) = 30 ∧ mN M3 (m + 2) = 12 := by
    obtain ⟨_, _, _, -, hk, -⟩ := h3
    exact ⟨hk.2.1.2.1, hk.2.2.1.2.1, hk.2.2.2.1.1⟩
  have lA : mN M3 (mR M3 m 6) = mN M (mR M m 6) := by rw [f3.2.1, f3.2.2.1]
  have lB : mN M3 (mR M3 m 7) = mN M (mR M m 7) := by rw [f3.2.1, f3.2.2.1]
  obtain ⟨pk, -, -, -, -, -, ⟨⟨p4, p5, -⟩, ⟨pk4, pk5, -⟩, ⟨pn4, pn5, -⟩⟩⟩ := hp3
  have pq : plq M M3 m (t + 1) := plq.fi f3 ⟨mA, mB⟩
  have pt := pq.pt (by omega) h1
  have i3 : ∀ i, i ≤ 15 → mI M3 (p + i) = mI M (p + i) := fun i hi => f3.2.2.2.2.2.2 _ (show ¬ p + i = m by omega)
  have n2 : mI M3 (m + 2) = mI M (m + 2) := f3.2.2.2.2.2.2 _ (show ¬ m + 2 = m by omega)
  have ia : i32 a := by rw [← h1.1]; exact (ok _ _).1
  rw [h03, p4, p5, pn4, pn5, lA, lB, h83, Int.toNat_natCast, Int.toNat_natCast, hm5.1, hm5.2.2, pt.1, pt.2, i3 3 (by omega), i3 4 (by omega)]
  have st : ∀ {y : Int}, i32 y → y ≠ 0 → stfq a b (mI M (p + 3) v) (mI M (p + 4) v) x = (y, x) → Ci G y_Ma_stop d [vr m, vi y, vi x] M3 (fun r M' => i32 r ∧ mOk M' ∧ ((r = 0 ∨ r = 1) ∧ setQ9 M0 z m U Ab0 Be0 C0 M t c (stfq a b (mI M (p + 3) v) (mI M (p + 4) v) x) v a r M')) := fun {y} hy y0 ef => (x_Ma_stop hy ix h3).mono (fun r M' q => by
    obtain ⟨e, q1, q2, q3, q4⟩ := q
    rw [e, ef]
    exact ⟨i32s (by omega) (by omega), q1.pile.1, Or.inl rfl, Or.inl ⟨rfl, y0, q3, q4⟩, q1, b3.trans q2.mtb⟩)
  refine ⟨kB3, by omega, fun y1 => ⟨kA3, by omega, pk, pk4, by omega, fun _ => ⟨by omega, pk5, by omega⟩, fun y2 => st (i32s (by omega) (by omega)) (by decide) (by unfold stfq; rw [if_neg (fun u => u y1), if_pos (by omega)]), fun y2 => ⟨by omega, hm5.2.1, by omega, fun M45 e45 => ?_⟩⟩, fun y1 => st (i32s (by omega) (by omega)) (by decide) (by unfold stfq; rw [if_pos y1])⟩
  have w := ms_nxt h3 ia e45
  obtain ⟨Ab, Be, C, -, hk, -⟩ := id h3
  obtain ⟨sA, sB, sne, sz⟩ := hk.2.2.2.2.2.1
  have r6 := hk.2.1.2.2.1
  have r7 := hk.2.1.2.2.2.1
  have f45 : FI (fun b => b = m + 2) M3 M45 := by rw [e45]; exact FI.ui rfl
  refine ⟨Or.inr ⟨rfl, by unfold stfq; rw [if_neg (fun u => u y1), if_neg (by omega)], fun j hj => ?_, fun j => ?_⟩, w.1, b3.trans w.2⟩
  · rw [f45.2.2.1, r6, r7, f45.2.2.2.2.2.2 Ab (show ¬ Ab = m + 2 by omega), f45.2.2.2.2.2.2 Be (show ¬ Be = m + 2 by omega), ← r6, ← r7]
    exact pq j (by omega)
  · rw [mI_ui _ j e45, n2]
    by_cases y : j = v
    · rw [if_pos ⟨rfl, y⟩, if_pos y]
    · rw [if_neg (fun q => y q.2), if_neg y]
theorem run_set {pp : Int} {v : Nat} (hE : Rnv M0 z m Ab0 Be0 p O P K L) (hpc : pc < L) (hi : i < 1000000) (hM : MS M0 z m U Ab0 Be0 C0 M (t + 1) c) (o : mI M0 O pc = 43) (ox : mI M0 P pc = pp * 16 + (v : Int)) (hv : v < 12) (hpp : 0 ≤ pp ∧ pp ≤ 16384) (pt : ptq M m t a b) (next : (stfq a b (mI M0 (p + 3) v) (mI M0 (p + 4) v) pp).1 = 0 → ∀ M', MS M0 z m U Ab0 Be0 C0 M' t c → mtb m M M' → plq M M' m t → (∀ j, mI M' (m + 2) j = if j = v then a else mI M (m + 2) j) → h_Ma_run_14 G (d + 3) m ((pc + 1 : Nat) : Int) ((i + 1 : Nat) : Int) M' Q) (flt : (stfq a b (mI M0 (p + 3) v) (mI M0 (p + 4) v) pp).1 ≠ 0 → ∀ M', mI M' m 1 = (stfq a b (mI M0 (p + 3) v) (mI M0 (p + 4) v) pp).1 → mI M' m 2 = (stfq a b (mI M0 (p + 3) v) (mI M0 (p + 4) v) pp).2 → MS M0 z m U Ab0 Be0 C0 M' t c → mtb m M M' → Q 0 M') : h_Ma_run_14 G (d + 3) m (pc : Int) (i : Int) M Q := by
  obtain ⟨hp, hm0, ha, hL, hLK, hLn⟩ := hE
  obtain ⟨ok, k0, h8, kA, kB, tA, tB, bA, bB, hb, ⟨mA, mB⟩, ne⟩ := hM.pile
  obtain ⟨hp1, hr0, iO, iP, iT⟩ := hM.prog hp hm0 ha
  obtain ⟨pk, ⟨pr0, pr1⟩, ⟨kO, kP, nO, nP⟩, -, -, -, ⟨⟨-, -, -, p8, p9, -⟩, ⟨-, -, -, pk8, pk9, -⟩, ⟨-, -, -, pn8, pn9, -⟩⟩⟩ := id hp1
  have l2 : mI M p 2 = L := by rw [show p = p + 0 by omega, iT 0 (by omega)]; exact hL
  have no : ¬ ((1000000 : Int) ≤ (i : Int) ∨ ((pc : Int) < 0 ∨ mI M (mR M m 0) 2 ≤ (pc : Int))) := by rw [hr0, l2]; omega
  refine k_Ma_run_14 ok (i32s (by omega) (by omega)) ⟨by omega, by omega⟩ ⟨fun _ _ => ⟨k0, by rw [hr0]; exact pk⟩, fun y => absurd y no, fun _ => ?_⟩
  rw [hr0, pr0, pr1, p8, p9, pn8, pn9, nO, nP, iO, iP, Int.toNat_natCast, show ((i : Int) + 1) = ((i + 1 : Nat) : Int) by omega, show ((pc : Int) + 1) = ((pc + 1 : Nat) : Int) by omega]
  have io : i32 (mI M0 O pc) := by rw [← iO]; exact (ok _ _).1
  have ix : i32 (mI M0 P pc) := by rw [← iP]; exact (ok _ _).1
  have st : Ci G y_Ma_compute (d + 3) [vr m, vi (mI M0 O pc), vi (mI M0 P pc)] M (setQ9 M0 z m U Ab0 Be0 C0 M t c (stfq a b (mI M0 (p + 3) v) (mI M0 (p + 4) v) pp) v a) := by
    refine k_Ma_computew ok io ix ⟨fun y => absurd y (by rw [o]; decide), fun _ => ⟨fun y => absurd y (by rw [o]; decide), fun _ => ⟨fun _ => ⟨k0, ?_⟩, fun y => absurd o y⟩⟩⟩
    rw [ox, show Int.tdiv (pp * 16 + (v : Int)) 16 = pp by rw [Int.tdiv_eq_ediv_of_nonneg (by omega)]; omega, show Int.tmod (pp * 16 + (v : Int)) 16 = (v : Int) by rw [Int.tmod_eq_emod_of_nonneg (by omega)]; omega, ← iT 3 (by omega), ← iT 4 (by omega)]
    refine (x_Ma_store (d := d + 1) (i32s (by omega) (by omega)) hv hM hp1 hr0 ha.1 pt).mono (fun r M' q => ?_)
    have r01 : r = 0 ∨ r = 1 := q.1.imp (fun u => u.1) (fun u => u.1)
    exact ⟨m_b32 r01, q.2.1.pile.1, r01, q⟩
  refine ⟨k0, pk, kO, by omega, kP, by omega, fun o0 => absurd o0 (by omega), fun _ => ⟨fun o3 => absurd o3 (by omega), fun _ => ⟨fun o4 => absurd o4 (by omega), fun _ => ⟨fun o5 => absurd o5 (by omega), fun _ => ⟨fun o7 => absurd o7 (by omega), fun _ => ⟨fun o30 => absurd o30 (by omega), fun _ => ⟨fun o33 => absurd o33 (by omega), fun _ => ⟨fun o42 => absurd o42 (by omega), fun _ => st.mono (fun r M' q => ?_)⟩⟩⟩⟩⟩⟩⟩⟩
  obtain ⟨q1, q2, q3⟩ := q
  rcases q1 with ⟨e1, w0, w1, w2⟩ | ⟨e1, w0, w1, w2⟩
  · rw [e1]
    exact ⟨i32s (by omega) (by omega), q2.pile.1, fun _ => flt w0 M' w1 w2 q2 q3, fun u => absurd rfl u⟩
  · rw [e1]
    exact ⟨i32s (by omega) (by omega), q2.pile.1, fun u => absurd u (by decide), fun _ => next w0 M' q2 q3 w1 w2⟩
end QAH
end
section
/-! The class's machine, exactly: all sets of a branch. -/
section QAI
variable {G : mG} {d z m U Ab0 Be0 C0 cc p O P K L F0 H s0 : Nat} {M0 : mM} {w E pl lo hi : Nat → Int} {cv : Nat → vrs} {ec : Nat → Int × Int} {fv : Nat → vrs} {ns : Nat → Int} {sf ef : Nat → Nat} {X : Nat → Prop}
/-- the orders of sets: the var, its rule from i to j, the word whose place a fault tells -/
def Scd (w : Nat → Int) (ec : Nat → Int × Int) (pl : Nat → Int) (O P : Nat → Int) : List (Nat × Nat × Nat × Nat) → Nat → Nat → Prop
  | [], s, e => s = e
  | q :: r, s, e => ∃ a : Nat, Cd w ec pl O P 0 0 0 q.2.1 q.2.2.1 s a ∧ O a = 43 ∧ P a = pl q.2.2.2 * 16 + (q.1 : Int) ∧ Scd w ec pl O P r (a + 1) e
/-- what sets make of the next state, and the first fault -/
noncomputable def stq9 (w : Nat → Int) (cv : Nat → vrs) (pl lo hi : Nat → Int) : List (Nat × Nat × Nat × Nat) → (Nat → Int) → (Int × Int) × (Nat → Int)
  | [], nx => ((0, 0), nx)
  | q :: r, nx => if (vlq w cv pl 0 0 q.2.1 q.2.2.1).1 ≠ 0 then (((vlq w cv pl 0 0 q.2.1 q.2.2.1).1, (vlq w cv pl 0 0 q.2.1 q.2.2.1).2.1), nx) else if (stfq (vlq w cv pl 0 0 q.2.1 q.2.2.1).2.1 (vlq w cv pl 0 0 q.2.1 q.2.2.1).2.2 (lo q.1) (hi q.1) (pl q.2.2.2)).1 ≠ 0 then (stfq (vlq w cv pl 0 0 q.2.1 q.2.2.1).2.1 (vlq w cv pl 0 0 q.2.1 q.2.2.1).2.2 (lo q.1) (hi q.1) (pl q.2.2.2), nx) else stq9 w cv pl lo hi r (fun j => if j = q.1 then (vlq w cv pl 0 0 q.2.1 q.2.2.1).2.1 else nx j)
theorem MSv.ofb {M M' : mM} {t t' c : Nat} (h : MSv M0 z m U Ab0 Be0 C0 fv ns F0 X M t c) (k : MS M0 z m U Ab0 Be0 C0 M' t' c) (b : mtb m M M') : MSv M0 z m U Ab0 Be0 C0 fv ns F0 X M' t' c ∧ ptl m ns sf ef M' H = ptl m ns sf ef M H := by
  have e9 : mI M' m 9 = mI M m 9 := by rw [k.nine, h.1.nine]
  refine ⟨⟨k, fun x hx h7 u => ?_, h.2.2.mtb b e9⟩, ptl_cg e9 H (fun x _ => by rw [b (m + 5) (by omega) (by omega)])⟩
  rw [b (m + 5) (by omega) (by omega), e9] at u
  rw [b (m + 6) (by omega) (by omega), b (m + 7) (by omega) (by omega)]
  exact h.2.1 x hx h7 u
theorem Scd.le : ∀ (l : List (Nat × Nat × Nat × Nat)) {s e : Nat}, Scd w ec pl (mI M0 O) (mI M0 P) l s e → s ≤ e
  | [], _, _, h => Nat.le_of_eq h
  | q :: r, s, e, h => by
    obtain ⟨a, c1, -, -, c2⟩ := h
    have l1 := c1.lt
    have l2 := Scd.le r c2
    omega
end QAI
end
end
section
section
/-! A table of slots, pure: 1024 slots hold at most 512 states; a state is found by going on from its own slot. -/
section SLO
theorem php9 : ∀ (n m : Nat) (f : Nat → Nat), (∀ i, i < m → f i < n) → (∀ i j, i < m → j < m → f i = f j → i = j) → m ≤ n := by
  intro n
  induction n with
  | zero =>
    intro m f h _
    by_cases y : m = 0
    · omega
    · exact absurd (h 0 (by omega)) (by omega)
  | succ n ih =>
    intro m f h hi
    by_cases y : m = 0
    · omega
    · obtain ⟨m', rfl⟩ : ∃ m', m = m' + 1 := ⟨m - 1, by omega⟩
      have := ih m' (fun i => if f i = n then f m' else f i) (fun i hi' => by
        show (if f i = n then f m' else f i) < n
        have a := h i (by omega)
        have b := h m' (by omega)
        by_cases u : f i = n
        · rw [if_pos u]
          by_cases v : f m' = n
          · have := hi i m' (by omega) (by omega) (by omega)
            omega
          · omega
        · rw [if_neg u]
          omega) (fun i j hi' hj e => by
        have e : (if f i = n then f m' else f i) = (if f j = n then f m' else f j) := e
        by_cases u : f i = n <;> by_cases v : f j = n
        · exact hi i j (by omega) (by omega) (by omega)
        · rw [if_pos u, if_neg v] at e
          have := hi m' j (by omega) (by omega) e
          omega
        · rw [if_neg u, if_pos v] at e
          have := hi i m' (by omega) (by omega) e
          omega
        · rw [if_neg u, if_neg v] at e
          exact hi i j (by omega) (by omega) e)
      omega
/-- slots sl hold the n states; hs k is where state k would like to stand -/
def SLq (sl : Nat → Int) (hs : Nat → Nat) (n : Nat) : Prop := (∀ j, j < 1024 → sl j = -1 ∨ ∃ k : Nat, k < n ∧ sl j = k) ∧ (∀ k, k < n → ∃ t, t < 1024 ∧ sl ((hs k + t) % 1024) = (k : Int) ∧ ∀ t', t' < t → sl ((hs k + t') % 1024) ≠ -1) ∧ ∀ i j, i < 1024 → j < 1024 → sl i = sl j → sl i ≠ -1 → i = j
variable {sl sl' : Nat → Int} {hs : Nat → Nat} {n h : Nat}
/-- there is a free slot -/
theorem SLq.free (s : SLq sl hs n) (hn : n < 1024) : ∃ t, t < 1024 ∧ sl ((h + t) % 1024) = -1 := by
  refine Classical.byContradiction (fun u => ?_)
  have a : ∀ j, j < 1024 → ∃ k : Nat, k < n ∧ sl j = k := fun j hj => by
    rcases s.1 j hj with w | w
    · refine absurd ⟨(j + 1024 - h % 1024) % 1024, by omega, ?_⟩ u
      rw [show (h + (j + 1024 - h % 1024) % 1024) % 1024 = j by omega]
      exact w
    · exact w
  have b := php9 n 1024 (fun j => (sl j).toNat) (fun j hj => by
    obtain ⟨k, k1, k2⟩ := a j hj
    show (sl j).toNat < n
    rw [k2]
    omega) (fun i j hi hj e => by
    obtain ⟨k, k1, k2⟩ := a i hi
    obtain ⟨l, l1, l2⟩ := a j hj
    have e : (sl i).toNat = (sl j).toNat := e
    rw [k2, l2] at e
    exact s.2.2 i j hi hj (by rw [k2, l2]; omega) (by rw [k2]; omega))
  omega
/-- state k, looked for from its own slot, is not passed over: at step t the slot is filled, and it is k's or comes before k's -/
theorem SLq.step {k t : Nat} (s : SLq sl hs n) (hk : k < n) (ht : t < 1024) (hb : ∀ t', t' < t → sl ((hs k + t') % 1024) ≠ (k : Int)) : sl ((hs k + t) % 1024) ≠ -1 := by
  obtain ⟨t0, a1, a2, a3⟩ := s.2.1 k hk
  by_cases y : t < t0
  · exact a3 t y
  · by_cases y2 : t = t0
    · rw [y2, a2]
      omega
    · exact absurd a2 (hb t0 (by omega))
/-- a new state takes the first free slot from its own on -/
theorem SLq.put {t : Nat} (s : SLq sl hs n) (hh : hs n % 1024 = h % 1024) (ht : t < 1024) (hf : sl ((h + t) % 1024) = -1) (hb : ∀ t', t' < t → sl ((h + t') % 1024) ≠ -1) (e : ∀ j, j < 1024 → sl' j = if j = (h + t) % 1024 then (n : Int) else sl j) : SLq sl' hs (n + 1) := by
  have m : ∀ x : Nat, x % 1024 < 1024 := fun x => Nat.mod_lt _ (by decide)
  refine ⟨fun j hj => ?_, fun k hk => ?_, fun i j hi hj u v => ?_⟩
  · rw [e j hj]
    by_cases y : j = (h + t) % 1024
    · rw [if_pos y]
      exact Or.inr ⟨n, by omega, rfl⟩
    · rw [if_neg y]
      exact (s.1 j hj).imp id (fun ⟨k, k1, k2⟩ => ⟨k, by omega, k2⟩)
  · by_cases y : k = n
    · refine ⟨t, ht, ?_, fun t' h' => ?_⟩
      · rw [e _ (m _), if_pos (by rw [y]; omega), y]
      · rw [e _ (m _)]
        by_cases z : (hs k + t') % 1024 = (h + t) % 1024
        · rw [if_pos z]
          omega
        · rw [if_neg z, show (hs k + t') % 1024 = (h + t') % 1024 by rw [y]; omega]
          exact hb t' h'
    · obtain ⟨t0, a1, a2, a3⟩ := s.2.1 k (by omega)
      refine ⟨t0, a1, ?_, fun t' h' => ?_⟩
      · rw [e _ (m _), if_neg (fun z => by rw [z, hf] at a2; omega)]
        exact a2
      · rw [e _ (m _)]
        by_cases z : (hs k + t') % 1024 = (h + t) % 1024
        · rw [if_pos z]
          omega
        · rw [if_neg z]
          exact a3 t' h'
  · rw [e i hi, e j hj] at u
    rw [e i hi] at v
    have nk : ∀ x, x < 1024 → sl x ≠ (n : Int) := fun x hx w => by
      rcases s.1 x hx with w2 | ⟨k, k1, k2⟩
      · rw [w2] at w; omega
      · rw [k2] at w; omega
    by_cases y : i = (h + t) % 1024 <;> by_cases z : j = (h + t) % 1024
    · omega
    · rw [if_pos y, if_neg z] at u
      exact absurd u.symm (nk j hj)
    · rw [if_neg y, if_pos z] at u
      exact absurd u (nk i hi)
    · rw [if_neg y, if_neg z] at u
      rw [if_neg y] at v
      exact s.2.2 i j hi hj u v
/-- no state yet -/
theorem SLq.nil (e : ∀ j, j < 1024 → sl j = -1) : SLq sl hs 0 := ⟨fun j hj => Or.inl (e j hj), fun k hk => absurd hk (by omega), fun i j hi _ _ v => absurd (e i hi) v⟩
end SLO
end
section
/-! What exploring a text comes to: pure. -/
/-- what a rule is worth in a state -/
noncomputable def evq (W pl nq : Nat → Int) (sm : Nat → Nat → Prop) (N : Nat) (nms : List nm9) (sg : List Int) (i j : Nat) : vrs := vlq W (cvs W pl nq sm N (fun v => sg.getD v 0) nms.reverse) pl 0 0 i j
/-- what sets make of a state -/
noncomputable def stpq (W pl nq : Nat → Int) (sm : Nat → Nat → Prop) (N : Nat) (nms : List nm9) (V : Nat) (lo hi : Nat → Int) (sg : List Int) (l : List (Nat × Nat × Nat × Nat)) : (Int × Int) × List Int := ((stq9 W (cvs W pl nq sm N (fun v => sg.getD v 0) nms.reverse) pl lo hi l (fun v => sg.getD v 0)).1, (List.range V).map (stq9 W (cvs W pl nq sm N (fun v => sg.getD v 0) nms.reverse) pl lo hi l (fun v => sg.getD v 0)).2)
/-- a fault and its place, its state; the states, their kinds and commands -/
abbrev xR9 : Type := (Int × Int) × Nat × List (List Int) × xt9
/-- what exploring a text comes to -/
noncomputable def XpG (γ : gW9) : xR9 := xpl9 (evq γ.1 γ.2.1 γ.2.2.1 γ.2.2.2.1 γ.2.2.2.2.1 γ.2.2.2.2.2.1) (stpq γ.1 γ.2.1 γ.2.2.1 γ.2.2.2.1 γ.2.2.2.2.1 γ.2.2.2.2.2.1 γ.2.2.2.2.2.2.1.length (fun v => (γ.2.2.2.2.2.2.1.getD v (0, 0, 0)).1) (fun v => (γ.2.2.2.2.2.2.1.getD v (0, 0, 0)).2.1)) (γ.2.2.2.2.2.2.2.1.getD (0, 0)) γ.2.2.2.2.2.2.2.2 (γ.2.2.2.2.2.2.1.map (fun x => x.2.2))
end
end
