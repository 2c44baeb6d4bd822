section
/-! The reference's look, exactly. -/
section LVX
variable {G : mG} {d a N g T K : Nat} {M M2 M3 M4 : mM} {nm : Int → Prop} {Q : Int → mM → Prop} {co : Int} {E rv : Nat → Int}
/-- a node is looked at, and the loop goes on or ends -/
theorem x_lkA {nm' : Int → Prop} {n k L : Nat} {u : Nat → Int} (hU : URq M a g N K co E rv) (hco : i32 co) (hw0 : Wd M a) (hF : ∀ M3, laX co M M4 a g N T K n L k u E rv M3 → mI M3 a 16 ≠ 0 → Q 0 M3) (h : LO M a g N T K M4) (hn : n < T) (hk : pks nm' M4 g T n k) (hv : so M4 g n = 1 → (0 ≤ va M4 g n ∧ va M4 g n < N) ∧ wk M a (va M4 g n).toNat = 1) (hL : ln M4 (a + 93) = (L + k : Nat)) (hb : L + k ≤ 65000) (hu : ∀ j, j < k → nt M4 (a + 93) (L + j) = u j) (h01 : ∀ j, j < k → u j = 0 ∨ u j = 1) (hK : ∀ M5, laX co M M4 a g N T K n L k u E rv M5 → mI M5 a 16 = 0 → h_MM_look_32 G (d + 5) a co M5 Q) : Cv G y_MM_lookAt (d + 5) [vr a, vi n, vi co] M4 (fun M5 => mOk M5 ∧ h_MM_look_32 G (d + 5) a co M5 Q) := by
  refine (x_MM_lookAt hU hco hw0 h hn hk hv hL hb hu h01).mono (fun M5 h5 => ⟨h5.1, ?_⟩)
  obtain ⟨o5, h5⟩ := h5
  by_cases z : mI M5 a 16 = 0
  · exact hK M5 h5 z
  · have w5 := h5.1.2.1.2.1.1.1
    refine k_MM_look_32 o5 hco ?_
    rw [r20w w5]
    exact ⟨w5.1.1, (w5.nu n95).1, fun _ => ⟨fun q => absurd q z, fun _ => hF M5 h5 z⟩, fun q => absurd (Or.inr z) q⟩
/-- what the trees stand for: intervals of words -/
def TBx (M : mM) (a g md : Nat) (rs : List (Nat × Nat)) (n e : Nat) : Prop := (∀ r, r ∈ rs → Eo (wk M a) 6 r.1 r.2) ∧ if md = 0 then ∃ i j, rs = [(i, j)] ∧ Tm M M a g 0 0 i j n e else rs.length = md ∧ Tmb M M a g (-1) rs n e
/-- what a node's value becomes -/
def rsw (M : mM) (g : Nat) (rv : Nat → Int) (k : Nat) : Int := if so M g k = 1 then rv (va M g k).toNat else va M g k
/-- no fault; the kinds; the names are resolved -/
def lkE (M : mM) (a g : Nat) (E rv : Nat → Int) (rs : List (Nat × Nat)) (L n e : Nat) (M3 : mM) : Prop := (flr (wk M a) E (nt M (a + 7)) rs).1 = 0 ∧ (∀ j, j < rs.length → nt M3 (a + 93) (L + j) = kdl (wk M a) E rs j) ∧ ∀ k, n ≤ k → k < e → va M3 g k = rsw M g rv k
/-- a pair is a fault -/
def fpw (M3 : mM) (a : Nat) (f : Int × Int) : Prop := mI M3 a 16 = f.1 ∧ mI M3 a 17 = f.2
theorem fst9_l {x y : Int × Int} (h : x.1 ≠ 0) : fst9 x y = x := if_neg h
theorem fst9_r {x y : Int × Int} (h : x.1 = 0) : fst9 x y = y := if_pos h
/-- as many parts as brothers -/
theorem tb_len (h : LO M a g N T K M2) : ∀ {rs : List (Nat × Nat)} {k f n e : Nat}, Tmb M M a g (-1) rs n e → Tn nm M2 g f k n e → 1 ≤ k → rs.length = k
  | [], _, _, _, _, h1, _, _ => h1.elim
  | [r], k, f, n, e, h1, h2, hk => by
    cases f with
    | zero => exact h2.elim
    | succ f =>
      rw [Tn, if_neg (by omega)] at h2
      by_cases c1 : k = 1
      · rw [c1]; rfl
      · rw [if_neg c1] at h2
        obtain ⟨m, q1, -⟩ := h2
        have := (h.2.2.2.1 n).2.2.symm.trans q1
        have := h1.2
        omega
  | r :: r2 :: rs, k, f, n, e, h1, h2, hk => by
    obtain ⟨m', t1, t2, t3⟩ := h1
    cases f with
    | zero => exact h2.elim
    | succ f =>
      rw [Tn, if_neg (by omega)] at h2
      by_cases c1 : k = 1
      · rw [if_pos c1] at h2
        have := (h.2.2.2.1 n).2.2.symm.trans h2.1
        omega
      · rw [if_neg c1] at h2
        obtain ⟨m, q1, -, q3⟩ := h2
        have q1' := (h.2.2.2.1 n).2.2.symm.trans q1
        have em : m = m' := by omega
        subst em
        have := tb_len h t3 q3 (by omega)
        simp only [List.length_cons] at this ⊢
        omega
theorem x_look_run (hU : URq M a g N K co E rv) (hco : i32 co) (hw0 : Wd M a) (hnm : ∀ v, nm v → (0 ≤ v ∧ v < N) ∧ wk M a v.toNat = 1) : ∀ (f md n e Lk L kk : Nat) (M2 : mM) (rs : List (Nat × Nat)), kk = md + (1 - md) → Tn nm M2 g f md n e → TBx M a g md rs n e → (∀ k, n ≤ k → k < e → va M2 g k = va M g k) → e ≤ T → LO M a g N T K M2 → mI M2 a 16 = 0 → ln M2 (a + 95) = (Lk + 2 * kk : Nat) → (∀ j, j < kk → nt M2 (a + 95) (Lk + 2 * (kk - 1 - j)) = ci M g n j ∧ nt M2 (a + 95) (Lk + 2 * (kk - 1 - j) + 1) = 0) → ln M2 (a + 93) = (L : Int) → L ≤ n → Lk ≤ 2 * (n + (T - e)) → (∀ M3, LO M a g N T K M3 → fpw M3 a (flr (wk M a) E (nt M (a + 7)) rs) → mI M3 a 16 ≠ 0 → Q 0 M3) → (∀ M3, lkR co M a g N T K Lk L kk f md n e M2 M3 → lkE M a g E rv rs L n e M3 → h_MM_look_32 G (d + 5) a co M3 Q) → h_MM_look_32 G (d + 5) a co M2 Q := by
  intro f
  induction f with
  | zero => intro md n e Lk L kk M2 rs _ ht; exact ht.elim
  | succ f ih =>
    intro md n e Lk L kk M2 rs hkk ht htb hva he h h16 lk pk lL hLn hLk hF hQ
    obtain ⟨hrs, htb⟩ := htb
    have hT := h.2.1.2.2.2.2.2.2.2
    have ht' := ht
    rw [Tn] at ht'
    have hlt := ht.lt
    by_cases c0 : md = 0
    · subst c0
      have kk1 : kk = 1 := by omega
      subst kk1
      rw [if_pos rfl] at ht'
      obtain ⟨p0, p1⟩ := pk 0 (by omega)
      rw [show Lk + 2 * (1 - 1 - 0) = Lk by first | rfl | omega] at p0 p1
      have pn : nt M2 (a + 95) Lk = (n : Int) := p0
      obtain ⟨-, ht'⟩ := ht'
      rw [if_pos rfl] at htb
      obtain ⟨i, j, rfl, tm⟩ := htb
      have eo : Eo (wk M a) 6 i j := hrs (i, j) (List.mem_singleton.2 rfl)
      have fl1 : flr (wk M a) E (nt M (a + 7)) [(i, j)] = fl (wk M a) E (nt M (a + 7)) 0 i j := by
        show fst9 (fl (wk M a) E (nt M (a + 7)) 0 i j) (0, 0) = _
        unfold fst9
        split
        · rename_i h0; exact (fl_z eo h0).symm
        · rfl
      have kd1 : ∀ y : Int, y = kdq (wk M a) E 0 i j → ∀ t, t < [(i, j)].length → y = kdl (wk M a) E [(i, j)] t := fun y hy t ht => by
        have t0 : t = 0 := by simp at ht; omega
        subst t0
        exact hy
      have so2 : ∀ k, so M2 g k = so M g k := fun k => (h.2.2.2.1 k).1
      have fp2 : fp M2 g n = fp M g n := (h.2.2.2.1 n).2.1
      have tn9 := fun (_ : Unit) => td_node (E := E) _ 0 i j (Nat.le_refl _) (Or.inl ⟨rfl, eo⟩) rfl _ _ _ tm
      unfold lkE at hQ
      rw [fl1] at hF hQ
      rcases ht' with ⟨b1, b2, b3, b4, b5⟩ | ⟨k, b1, b2, b3, b4⟩
      · -- a leaf
        refine s_lk2 (X := Lk) hco h h16 (by omega) lk (by omega) pn p1 (fun _ M5 k5 l5 t5 => ?_) (fun q => absurd (Or.inr (by omega)) q)
        have so5 : so M5 g n = so M2 g n := (k5.1.2.2.2.1 n).1.trans (h.2.2.2.1 n).1.symm
        have fp5 : fp M5 g n = fp M2 g n := (k5.1.2.2.2.1 n).2.1.trans (h.2.2.2.1 n).2.1.symm
        have va5 := k5.2.2.1
        obtain ⟨-, e1, kw, kij, kl, ks, ka, kv, kf, kk9⟩ : fp M g n = -1 ∧ e = n + 1 ∧ ∃ k, (i ≤ k ∧ k < j) ∧ (wk M a k = 1 ∨ wk M a k = 2 ∨ wk M a k = 12 ∨ wk M a k = 13) ∧ so M g n = wk M a k ∧ pm M g n = nt M (a + 7) k ∧ va M g n = nvq M a k ∧ fl (wk M a) E (nt M (a + 7)) 0 i j = (if wk M a k = 1 ∧ E k = -1 then (2, nt M (a + 7) k) else (0, 0)) ∧ kdq (wk M a) E 0 i j = (if wk M a k = 12 ∨ wk M a k = 13 ∨ (wk M a k = 1 ∧ E k = 1) then 1 else 0) := by
          rcases tn9 () with q | ⟨q, -⟩
          · exact q
          · rw [← fp2, b2] at q; omega
        have sw5 : so M5 g n = wk M a kw := by rw [so5, so2, ks]
        have vk5 : so M5 g n = 1 → (va M5 g n).toNat = kw := fun z => by
          rw [va5, hva n (Nat.le_refl _) hlt, kv]
          unfold nvq
          rw [if_pos (by rw [← sw5]; exact z), Int.toNat_natCast]
        refine x_lkA (nm' := nm) (k := 0) (L := L) (u := fun _ => 0) hU hco hw0 (fun M6 h6 z6 => ?_) k5.1 (by omega) (Or.inl ⟨rfl, by rw [fp5]; exact b2, by rw [so5]; exact b3⟩) (fun z => by rw [va5]; exact hnm _ (b5 (so5.symm.trans z))) (by rw [k5.2.2.2.1, lL]; omega) (by omega) (fun j _ => by omega) (fun j _ => by omega) (fun M6 h6 z6 => hQ M6 ?_ ?_)
        · obtain ⟨g1, g2, g3, g4, g5, g6⟩ := h6
          refine hF M6 g1 ?_ z6
          rcases g6 with ⟨y1, y2, y3, y4⟩ | ⟨y1, y2, y3, y4⟩ | ⟨-, y1, -⟩
          · rw [vk5 y3] at y4
            rw [kf, if_pos ⟨by rw [← sw5]; exact y3, y4⟩]
            exact ⟨y1, by rw [y2, ka]⟩
          · rw [sw5] at y3; omega
          · rw [k5.2.1, h16] at y1; exact absurd y1 z6
        rotate_left
        · obtain ⟨g1, g2, g3, g4, g5, g6⟩ := h6
          rcases g6 with ⟨y1, -⟩ | ⟨y1, -⟩ | ⟨yl, y1, y2, y3⟩
          · rw [z6] at y1; exact absurd y1 (by decide)
          · rw [z6] at y1; exact absurd y1 (by decide)
          · refine ⟨?_, fun t ht => ?_, fun k k1 k2 => ?_⟩
            · rw [kf, if_neg]
              rintro ⟨u1, u2⟩
              obtain ⟨-, v2, v3⟩ := y2 (by rw [sw5]; exact u1)
              rw [vk5 (by rw [sw5]; exact u1), u2] at v2
              exact v3 v2.symm
            · have t0 : t = 0 := by simp at ht; omega
              subst t0
              refine kd1 _ ?_ 0 (by simp)
              rw [kk9, Nat.add_zero]
              have yt : tyn (tn M g) (so M5 g n) (va M6 g n) 0 (fun _ => 0) (nt M6 (a + 93) L) := by
                rcases yl with yl | yl
                · exact absurd z6 yl
                · exact yl.2.2.2
              unfold tyn at yt
              rw [sw5] at yt
              by_cases w1 : wk M a kw = 1
              · obtain ⟨-, v2, -⟩ := y2 (by rw [sw5]; exact w1)
                rw [vk5 (by rw [sw5]; exact w1)] at v2
                show nt M6 (a + 93) L = _
                rw [← v2]
                by_cases e1 : E kw = 1
                · rw [if_pos (Or.inr (Or.inr ⟨w1, e1⟩)), e1]
                · rw [if_neg (by omega)]
                  omega
              · rw [if_neg w1] at yt
                by_cases w2 : wk M a kw = 2
                · rw [if_pos w2] at yt
                  show nt M6 (a + 93) L = _
                  rw [yt, if_neg (by omega)]
                · rw [if_neg w2, if_pos (by omega)] at yt
                  show nt M6 (a + 93) L = _
                  rw [yt, if_pos (by omega)]
            · have kn : k = n := by omega
              subst kn
              unfold rsw
              have ya : laE co M M5 a g k 0 (fun _ => 0) (nt M6 (a + 93) L) M6 := yl
              by_cases w1 : so M g k = 1
              · obtain ⟨v1, -, -⟩ := y2 (by rw [so5, so2]; exact w1)
                rw [if_pos w1, v1, va5, hva k (Nat.le_refl _) hlt]
              · rw [if_neg w1]
                rcases ya with ya | ⟨-, -, ya, -⟩
                · exact absurd z6 ya
                · rw [ya k (Or.inr (by rw [so5, so2]; exact w1)), va5, hva k (Nat.le_refl _) hlt]
        obtain ⟨g1, g2, g3, g4, g5, g6⟩ := h6
        have so6 : so M6 g n = so M2 g n := (g1.2.2.2.1 n).1.trans (h.2.2.2.1 n).1.symm
        have fp6 : fp M6 g n = fp M2 g n := (g1.2.2.2.1 n).2.1.trans (h.2.2.2.1 n).2.1.symm
        replace g6 : laE co M M5 a g n 0 (fun _ => 0) (nt M6 (a + 93) L) M6 := by
          rcases g6 with ⟨y1, -⟩ | ⟨y1, -⟩ | ⟨yl, -⟩
          · rw [z6] at y1; exact absurd y1 (by decide)
          · rw [z6] at y1; exact absurd y1 (by decide)
          · exact yl
        rcases g6 with z | ⟨z1, z2, z3, z4⟩
        · exact absurd z6 z
        · rw [so5] at z2 z4
          refine ⟨g1, z6, by rw [g2.1]; exact l5, fun j _ => by rw [g2.2.1, t5], g3, fun j hj => by rw [g4 j hj, k5.2.2.2.2.1], ⟨fun _ => nt M6 (a + 93) L, fun j hj => by rw [show L + j = L by first | rfl | omega], fun _ _ => g5, ?_⟩, fun j hj => ?_⟩
          · rw [Ty, if_pos rfl]
            refine ⟨hlt, g5, Or.inl ⟨b1, by rw [fp6]; exact b2, by rw [so6]; exact b3, fun y => ?_, fun y => z2 (so6.symm.trans y), by rw [so6]; exact z4⟩⟩
            rw [so6] at y
            rw [z3 n (Or.inr (by rw [so5, y]; decide)), va5]
            exact b4 y
          · rw [z3 j (Or.inl (by omega)), va5]
      · -- a node with parts
        have hge := b4.ge
        have so1 : so M2 g n ≠ 1 := fun z => by unfold ari at b2; omega
        obtain ⟨-, rs2, r1, r2, r3, r4, r5, r6, r7⟩ : fp M g n = ((n + 1 : Nat) : Int) ∧ ∃ rs : List (Nat × Nat), rs ≠ [] ∧ (∀ r, r ∈ rs → Eo (wk M a) 6 r.1 r.2) ∧ Tmb M M a g (-1) rs (n + 1) e ∧ (so M g n ≠ 1 ∧ so M g n ≠ 2 ∧ so M g n ≠ 12 ∧ so M g n ≠ 13) ∧ ari (so M g n) rs.length ∧ fl (wk M a) E (nt M (a + 7)) 0 i j = fst9 (flr (wk M a) E (nt M (a + 7)) rs) (kft (gdt (so M g n) rs.length (kdl (wk M a) E rs)) (pm M g n)) ∧ kdq (wk M a) E 0 i j = tyt (so M g n) (kdl (wk M a) E rs) := by
          rcases tn9 () with ⟨q, -⟩ | q
          · rw [← fp2, b3] at q; omega
          · exact q
        have rk : rs2.length = k := tb_len h r3 b4 b1
        refine s_lk2 (X := Lk) hco h h16 (by omega) lk (by omega) pn p1 (fun q => by omega) (fun _ M6 k6 l6 t6 v6 w6 => ?_)
        rw [b3]
        have b46 : Tn nm M6 g f k (n + 1) e := b4.lo h k6.1 (fun j _ _ => k6.2.2.1 j)
        refine s_look126 (X := Lk + 2) hco (by omega) k f (n + 1) e (Lk + 2) M6 b1 b46 he k6.1 l6 (by omega) (fun M7 k7 l7 t7 v7 => ?_)
        have w7 := k7.1.2.1.2.1.1.1
        refine k_MM_look_126 k7.1.2.1.1 hco (i32s (by omega) (by omega)) (i32s (by omega) (by omega)) ⟨fun _ => ⟨w7.1.1, (s_MM_turn (d := d + 4) k7.1.2.1.1 w7 l7 (by omega) b1).mono (fun M8 h8 => ?_)⟩, fun q => absurd (by decide) q⟩
        obtain ⟨m8, l8, t8, u8⟩ := h8
        have k8 := kp.mk k7.1 m8 (fun _ z => z)
        have k68 := k6.trans (k7.trans k8)
        refine ⟨m8.1, ?_⟩
        have b48 : Tn nm M8 g f k (n + 1) e := b4.lo h k68.1 (fun j _ _ => k68.2.2.1 j)
        refine ih k (n + 1) e (Lk + 2) L k M8 rs2 (by omega) b48 ⟨r2, by rw [if_neg (by omega)]; exact ⟨rk, r3⟩⟩ (fun x x1 x2 => by rw [k68.2.2.1, hva x (by omega) x2]) he k68.1 (by rw [k68.2.1]; exact h16) (by rw [l8, l7]) (fun j hj => ?_) (by rw [k68.2.2.2.1]; exact lL) (by omega) (by omega) (fun M9 l9 p9 z9 => hF M9 l9 (by rw [r6, fst9_l (by rw [← p9.1]; exact z9)]; exact p9) z9) (fun M9 h9 x9 => ?_)
        · refine ⟨?_, ?_⟩
          · rw [t8 (k - 1 - j) (by omega), show k - 1 - (k - 1 - j) = j by first | rfl | omega]
            exact (v7 j hj).1
          · rw [u8 _ (fun i hi => by omega)]
            exact (v7 (k - 1 - j) (by omega)).2
        · obtain ⟨g1, g2, g3, g4, g5, g6, ⟨c, gu, g7, g8⟩, g9⟩ := h9
          obtain ⟨x1, x2, x3⟩ := x9
          rw [rk] at x2
          have ceq : ∀ j, j < k → kdl (wk M a) E rs2 j = c j := fun j hj => by rw [← x2 j hj]; exact gu j hj
          have low : ∀ j, j < Lk + 2 → nt M9 (a + 95) j = nt M6 (a + 95) j := fun j hj => by rw [g4 j hj, u8 j (fun i hi => by omega), t7 j hj]
          refine s_lk2 (n := n) (X := Lk) (s := 1) hco g1 g2 (by omega) g3 (by omega) (by rw [low Lk (by omega)]; exact v6) (by rw [low (Lk + 1) (by omega)]; exact w6) (fun _ M10 k10 l10 t10 => ?_) (fun q => absurd (Or.inl rfl) q)
          have so10 : so M10 g n = so M2 g n := (k10.1.2.2.2.1 n).1.trans (h.2.2.2.1 n).1.symm
          have fp10 : fp M10 g n = fp M2 g n := (k10.1.2.2.2.1 n).2.1.trans (h.2.2.2.1 n).2.1.symm
          refine x_lkA (nm' := nmr co M g) (k := k) (L := L) (u := kdl (wk M a) E rs2) hU hco hw0 (fun M11 h11 z11 => ?_) k10.1 (by omega) (Or.inr ⟨b1, by omega, by rw [so10]; exact b2, by rw [fp10]; exact b3, f, e, he, (g8.lo g1 k10.1 (fun j _ _ => k10.2.2.1 j)).tn⟩) (fun z => absurd (so10.symm.trans z) so1) (by rw [k10.2.2.2.1]; exact g5) (by omega) (fun j hj => by rw [k10.2.2.2.2.1]; exact x2 j hj) (fun j hj => by rw [ceq j hj]; exact g7 j hj) (fun M11 h11 z11 => hQ M11 ?_ ?_)
          · obtain ⟨f1, f2, f3, f4, f5, f6⟩ := h11
            refine hF M11 f1 ?_ z11
            rcases f6 with ⟨y1, y2, y3, y4⟩ | ⟨y1, y2, y3, y4⟩ | ⟨-, y1, -⟩
            · exact absurd (so10.symm.trans y3) so1
            · rw [r6, fst9_r x1, rk]
              rw [so10, so2] at y4
              unfold kft
              rw [if_neg y4]
              exact ⟨y1, y2⟩
            · rw [k10.2.1, g2] at y1; exact absurd y1 z11
          rotate_left
          · obtain ⟨f1, f2, f3, f4, f5, f6⟩ := h11
            rcases f6 with ⟨y1, -⟩ | ⟨y1, -⟩ | ⟨yl, y1, -, y3⟩
            · rw [z11] at y1; exact absurd y1 (by decide)
            · rw [z11] at y1; exact absurd y1 (by decide)
            · rw [so10, so2] at y3
              obtain ⟨v1, v2⟩ := y3 r4
              refine ⟨?_, fun t ht => by
                have t0 : t = 0 := by simp at ht; omega
                subst t0
                exact kd1 _ (by rw [r7]; exact v2) 0 ht, fun x y1 y2 => ?_⟩
              · rw [r6, fst9_r x1, rk]
                exact kft_1.mpr v1
              · have ya : va M11 g x = va M10 g x := by
                  rcases yl with yl | ⟨-, -, yl, -⟩
                  · exact absurd z11 yl
                  · exact yl x (Or.inr (by rw [so10]; exact so1))
                rw [ya, k10.2.2.1]
                by_cases xn : x = n
                · subst xn
                  rw [g9 x (Or.inl (by omega)), k68.2.2.1, hva x (Nat.le_refl _) hlt]
                  unfold rsw
                  rw [if_neg (by rw [← so2]; exact so1)]
                · exact x3 x (by omega) y2
          obtain ⟨f1, f2, f3, f4, f5, f6⟩ := h11
          have so11 : so M11 g n = so M2 g n := (f1.2.2.2.1 n).1.trans (h.2.2.2.1 n).1.symm
          have fp11 : fp M11 g n = fp M2 g n := (f1.2.2.2.1 n).2.1.trans (h.2.2.2.1 n).2.1.symm
          replace f6 : laE co M M10 a g n k (kdl (wk M a) E rs2) (nt M11 (a + 93) L) M11 := by
            rcases f6 with ⟨y1, -⟩ | ⟨y1, -⟩ | ⟨yl, -⟩
            · rw [z11] at y1; exact absurd y1 (by decide)
            · rw [z11] at y1; exact absurd y1 (by decide)
            · exact yl
          rcases f6 with z | ⟨z1, z2, z3, z4⟩
          · exact absurd z11 z
          · have va11 : ∀ j, va M11 g j = va M9 g j := fun j => (z3 j (Or.inr (by rw [so10]; exact so1))).trans (k10.2.2.1 j)
            refine ⟨f1, z11, by rw [f2.1]; exact l10, fun j hj => by rw [f2.2.1, t10, low j (by omega), t6 j hj], f3, fun j hj => by rw [f4 j hj, k10.2.2.2.2.1, g6 j hj, k68.2.2.2.2.1], ⟨fun _ => nt M11 (a + 93) L, fun j hj => by rw [show L + j = L by first | rfl | omega], fun _ _ => f5, ?_⟩, fun j hj => ?_⟩
            · rw [Ty, if_pos rfl]
              exact ⟨hlt, f5, Or.inr ⟨k, kdl (wk M a) E rs2, b1, by rw [so11]; exact b2, by rw [fp11]; exact b3, (g8.lo g1 f1 (fun j _ _ => va11 j)).cg (fun j hj => ceq j (by omega)), by rw [so11, ← so10]; exact z4⟩⟩
            · rw [va11, g9 j (by omega), k68.2.2.1]
    · rw [if_neg c0] at ht' htb
      obtain ⟨hlen, htb⟩ := htb
      have kkm : kk = md := by omega
      subst kkm
      by_cases c1 : kk = 1
      · subst c1
        rw [if_pos rfl] at ht'
        obtain ⟨r, rfl⟩ : ∃ r, rs = [r] := by
          cases rs with
          | nil => simp at hlen
          | cons r rs =>
            cases rs with
            | nil => exact ⟨r, rfl⟩
            | cons r2 rs => simp at hlen
        refine ih 0 n e Lk L 1 M2 [r] (by omega) ht'.2 ⟨hrs, by rw [if_pos rfl]; exact ⟨r.1, r.2, rfl, htb.1⟩⟩ hva he h h16 lk pk lL hLn hLk hF (fun M3 h3 x3 => hQ M3 ?_ x3)
        obtain ⟨g1, g2, g3, g4, g5, g6, ⟨u, gu, g7, g8⟩, g9⟩ := h3
        refine ⟨g1, g2, g3, g4, g5, g6, ⟨u, gu, g7, ?_⟩, g9⟩
        rw [Ty, if_neg (by omega), if_pos rfl]
        exact ⟨((g1.2.2.2.1 n).2.2.trans (h.2.2.2.1 n).2.2.symm).trans ht'.1, g8⟩
      · rw [if_neg c1] at ht'
        obtain ⟨m, q1, q2, q3⟩ := ht'
        have l1 := q2.lt
        have l2 := q3.ge
        have hnp : np M g n = (m : Int) := (h.2.2.2.1 n).2.2.symm.trans q1
        obtain ⟨r, r2, rs2, rfl⟩ : ∃ r r2 rs2, rs = r :: r2 :: rs2 := by
          cases rs with
          | nil => simp at hlen; omega
          | cons r rs =>
            cases rs with
            | nil => simp at hlen; omega
            | cons r2 rs => exact ⟨r, r2, rs, rfl⟩
        obtain ⟨m', tb1, tb2, tb3⟩ := htb
        have em : m' = m := by omega
        subst em
        have eor : Eo (wk M a) 6 r.1 r.2 := hrs r (List.mem_cons_self ..)
        have flc : flr (wk M a) E (nt M (a + 7)) (r :: r2 :: rs2) = fst9 (fl (wk M a) E (nt M (a + 7)) 0 r.1 r.2) (flr (wk M a) E (nt M (a + 7)) (r2 :: rs2)) := rfl
        have fl1 : flr (wk M a) E (nt M (a + 7)) [r] = fl (wk M a) E (nt M (a + 7)) 0 r.1 r.2 := by
          show fst9 (fl (wk M a) E (nt M (a + 7)) 0 r.1 r.2) (0, 0) = _
          unfold fst9
          split
          · rename_i h0; exact (fl_z eor h0).symm
          · rfl
        refine ih 0 n m' (Lk + 2 * (kk - 1)) L 1 M2 [r] (by omega) q2 ⟨fun x hx => by rw [List.mem_singleton.1 hx]; exact eor, by rw [if_pos rfl]; exact ⟨r.1, r.2, rfl, tb1⟩⟩ (fun x x1 x2 => hva x x1 (by omega)) (by omega) h h16 (by rw [lk]; omega) (fun j hj => ?_) lL hLn (by omega) (fun M3 l3 p3 z3 => hF M3 l3 (by rw [flc, fst9_l (by rw [← fl1, ← p3.1]; exact z3), ← fl1]; exact p3) z3) (fun M3 h3 x3 => ?_)
        · have : j = 0 := by omega
          subst this
          have := pk 0 (by omega)
          rw [show Lk + 2 * (kk - 1) + 2 * (1 - 1 - 0) = Lk + 2 * (kk - 1 - 0) by first | rfl | omega]
          exact this
        · obtain ⟨g1, g2, g3, g4, g5, g6, ⟨u, gu, g7, g8⟩, g9⟩ := h3
          obtain ⟨x1, x2, x3⟩ := x3
          rw [fl1] at x1
          refine ih (kk - 1) m' e Lk (L + 1) (kk - 1) M3 (r2 :: rs2) (by omega) (q3.lo h g1 (fun j j1 _ => g9 j (by omega))) ⟨fun x hx => hrs x (List.mem_cons_of_mem _ hx), by rw [if_neg (by omega)]; exact ⟨by simp only [List.length_cons] at hlen ⊢; omega, tb3⟩⟩ (fun x y1 y2 => by rw [g9 x (by omega), hva x (by omega) y2]) he g1 g2 g3 (fun j hj => ?_) g5 (by omega) (by omega) (fun M4 l4 p4 z4 => hF M4 l4 (by rw [flc, fst9_r x1]; exact p4) z4) (fun M4 h4 x4 => hQ M4 ?_ ?_)
          · have := pk (j + 1) (by omega)
            rw [ci_succ hnp, show Lk + 2 * (kk - 1 - (j + 1)) = Lk + 2 * (kk - 1 - 1 - j) by first | rfl | omega] at this
            rw [g4 _ (by omega), g4 _ (by omega)]
            exact this
          · obtain ⟨f1, f2, f3, f4, f5, f6, ⟨v, fu, f7, f8⟩, f9⟩ := h4
            refine ⟨f1, f2, f3, fun j hj => by rw [f4 j hj, g4 j (by omega)], by rw [f5]; omega, fun j hj => by rw [f6 j (by omega), g6 j hj], ⟨fun j => if j = 0 then u 0 else v (j - 1), fun j hj => ?_, fun j hj => ?_, ?_⟩, fun j hj => by rw [f9 j (by omega), g9 j (by omega)]⟩
            · show nt M4 (a + 93) (L + j) = if j = 0 then u 0 else v (j - 1)
              by_cases z : j = 0
              · rw [if_pos z, z, f6 (L + 0) (by omega)]; exact gu 0 (by omega)
              · rw [if_neg z, ← fu (j - 1) (by omega), show L + 1 + (j - 1) = L + j by first | rfl | omega]
            · show (if j = 0 then u 0 else v (j - 1)) = 0 ∨ (if j = 0 then u 0 else v (j - 1)) = 1
              by_cases z : j = 0
              · rw [if_pos z]; exact g7 0 (by omega)
              · rw [if_neg z]; exact f7 (j - 1) (by omega)
            · rw [Ty, if_neg (by omega), if_neg (by omega)]
              refine ⟨m', ((f1.2.2.2.1 n).2.2.trans (h.2.2.2.1 n).2.2.symm).trans q1, (g8.lo g1 f1 (fun j _ j2 => f9 j (by omega))).cg (fun j hj => ?_), f8.cg (fun j hj => ?_)⟩
              · have : j = 0 := by omega
                rw [this, if_pos rfl]
              · rw [if_neg (by omega), show j + 1 - 1 = j by first | rfl | omega]
          · obtain ⟨f1, f2, f3, f4, f5, f6, -, f9⟩ := h4
            obtain ⟨y1, y2, y3⟩ := x4
            refine ⟨by rw [flc, fst9_r x1]; exact y1, fun t ht => ?_, fun x z1 z2 => ?_⟩
            · cases t with
              | zero =>
                rw [f6 (L + 0) (by omega)]
                exact x2 0 (by simp)
              | succ t =>
                have := y2 t (by simp only [List.length_cons] at ht ⊢; omega)
                rw [show L + (t + 1) = L + 1 + t by first | rfl | omega, this]
                rfl
            · by_cases c : x < m'
              · rw [f9 x (Or.inl c)]; exact x3 x z1 c
              · exact y3 x (by omega) z2
end LVX
end
section
/-! The reference's look, exactly: the whole. -/
section LWX
variable {G : mG} {d a N g T K : Nat} {M : mM} {nm : Int → Prop} {co : Int} {E rv : Nat → Int}
/-- the fault, or the kind; the names are resolved -/
def lkX (co : Int) (M : mM) (a g N T K : Nat) (E rv : Nat → Int) (i j n e : Nat) (r : Int) (M3 : mM) : Prop := lkQ co M a g N T K n e r M3 ∧ (mI M a 16 ≠ 0 ∨ (mI M3 a 16 ≠ 0 ∧ fpw M3 a (fl (wk M a) E (nt M (a + 7)) 0 i j)) ∨ (mI M3 a 16 = 0 ∧ (fl (wk M a) E (nt M (a + 7)) 0 i j).1 = 0 ∧ r = kdq (wk M a) E 0 i j ∧ ∀ k, n ≤ k → k < e → va M3 g k = rsw M g rv k))
theorem x_MM_look {n e i j : Nat} (hU : URq M a g N K co E rv) (hco : i32 co) (hnm : ∀ v, nm v → (0 ≤ v ∧ v < N) ∧ wk M a v.toNat = 1) (eo : Eo (wk M a) 6 i j) (tm : Tm M M a g 0 0 i j n e) (h : Lc M a g N T K) (ht : To nm M g 0 n e) (he : e ≤ T) : Ci G y_MM_look (d + 6) [vr a, vi n, vi co] M (lkX co M a g N T K E rv i j n e) := by
  obtain ⟨hO, hw, -, -, -, hg, -, hT⟩ := id h
  have w := hw.1.1
  obtain ⟨f, ht⟩ := ht
  have hlt := ht.lt
  have r19 : ∀ {M3 : mM}, Wd M3 a → mR M3 a 19 = a + 93 := fun w => w.1.2.2.2.2.1.2.2.2.2.1
  have h0 := LO.refl h
  refine k_MM_look hO (i32s (by omega) (by omega)) hco ?_
  rw [r20w w]
  refine ⟨w.1.1, (w.nu n95).1, fun M3 e3 => ?_⟩
  have b95 : 0 ≤ ln M (a + 95) := (w.nu n95).2.2.2.1.1
  obtain ⟨m3, l3, -, -⟩ := mv_set hO w n95 (v := 0) (by omega) b95 e3
  have k3 := kp.mk h0 m3 (fun _ z => z)
  have w3 := k3.1.2.1.2.1.1.1
  rw [r19 w3]
  refine ⟨(w3.nu n93).1, fun M6 e6 => ?_⟩
  have b93 : 0 ≤ ln M3 (a + 93) := (w3.nu n93).2.2.2.1.1
  obtain ⟨m6, l6, -, -⟩ := mv_set m3.1 w3 n93 (v := 0) (by omega) b93 e6
  have w6 := m6.2.1
  have f6 := (m6.fld w3 (fun q hq => by rw [hq]; exact n93) (fun hq => hq)).1
  have s7 := m6.lst (tL_in (a := a) (q := g + 7) hg (tLk7 g)) (by omega)
  have L6 : LO M a g N T K M6 := k3.1.step m6 (fun q hq => Or.inl hq) (fun x hx => hx.elim) s7.1 (fun i _ _ => by rw [f6])
  have v6 : ∀ k, va M6 g k = va M g k := fun k => (s7.2.1 k).trans (k3.2.2.1 k)
  have x6 : ln M6 (a + 95) = ((0 : Nat) : Int) := by rw [(m6.lst n95 (by omega)).1, l3]; rfl
  rw [r20w w6]
  refine ⟨(w6.nu n95).1, (s_lk_push (i32s (by omega) (by omega)) L6 x6 (by omega)).mono (fun M7 h7 => ?_)⟩
  obtain ⟨o7, k7, l7, t7, v7⟩ := h7
  have w7 := k7.1.2.1.2.1.1.1
  rw [r20w w7]
  refine ⟨o7, w7.1.1, (w7.nu n95).1, (s_lk_push (i32s (by omega) (by omega)) k7.1 l7 (by omega)).mono (fun M8 h8 => ?_)⟩
  obtain ⟨o8, k8, l8, t8, v8⟩ := h8
  have w8 := k8.1.2.1.2.1.1.1
  have k68 := k7.trans k8
  have va8 : ∀ k, va M8 g k = va M g k := fun k => (k68.2.2.1 k).trans (v6 k)
  refine ⟨o8, ?_⟩
  have fl1 : flr (wk M a) E (nt M (a + 7)) [(i, j)] = fl (wk M a) E (nt M (a + 7)) 0 i j := by
    show fst9 (fl (wk M a) E (nt M (a + 7)) 0 i j) (0, 0) = _
    unfold fst9
    split
    · rename_i h0; exact (fl_z eo h0).symm
    · rfl
  have f16 : mI M8 a 16 = mI M a 16 := by rw [k68.2.1, f6, k3.2.1]
  by_cases z : mI M8 a 16 = 0
  · refine x_look_run (nm := nm) hU hco w hnm f 0 n e 0 0 1 M8 [(i, j)] rfl (ht.lo h0 k8.1 (fun k _ _ => va8 k)) ⟨fun r hr => by rw [List.mem_singleton.1 hr]; exact eo, by rw [if_pos rfl]; exact ⟨i, j, rfl, tm⟩⟩ (fun k _ _ => va8 k) he k8.1 z l8 (fun j hj => ?_) (by rw [k68.2.2.2.1, l6]; rfl) (by omega) (by omega) (fun M3 h3 p3 z3 => ⟨⟨h3, Or.inl rfl, Or.inl z3⟩, Or.inr (Or.inl ⟨z3, by rw [← fl1]; exact p3⟩)⟩) (fun M9 h9 x9 => ?_)
    · have : j = 0 := by omega
      subst this
      exact ⟨(t8 0 (by omega)).trans v7, v8⟩
    · obtain ⟨g1, g2, g3, g4, g5, g6, ⟨u, gu, g7, g8⟩, g9⟩ := h9
      have w9 := g1.2.1.2.1.1.1
      have g3' : mI M9 (a + 95) 1 = 0 := g3
      refine k_MM_look_32 g1.2.1.1 hco ?_
      rw [r20w w9, r19 w9, g3', g2]
      refine ⟨w9.1.1, (w9.nu n95).1, fun _ => ⟨fun _ => ⟨(w9.nu n93).1, (s_MN_last g1.2.1.1 (w9.nu n93) (by rw [g5]; omega)).mono (fun x M10 h10 => ?_)⟩, fun q => absurd rfl q⟩, fun q => absurd (Or.inl (by omega)) q⟩
      obtain ⟨e10, hx⟩ := h10
      subst e10
      refine ⟨by rw [hx]; exact (g1.2.1.1 _ _).1, g1.2.1.1, fun v hv => ⟨⟨g1, by split at hv <;> omega, Or.inr ⟨g2, ⟨f, g8.cg (fun j hj => ?_)⟩, fun j hj => (g9 j hj).trans (va8 j)⟩⟩, Or.inr (Or.inr ⟨g2, by rw [← fl1]; exact x9.1, ?_, x9.2.2⟩)⟩⟩
      rotate_left
      · have q0 := x9.2.1 0 (by simp)
        rw [g5] at hx
        have hx' : x = kdq (wk M a) E 0 i j := hx.trans q0
        rw [← hx']
        have u0 := gu 0 (by omega)
        have u1 := g7 0 (by omega)
        have hx2 : x = u 0 := hx.trans u0
        split at hv <;> omega
      have u0 := gu 0 (by omega)
      have u1 := g7 0 (by omega)
      rw [g5] at hx
      have hx' : x = u 0 := hx.trans u0
      rw [show j = 0 by first | rfl | omega]
      split at hv <;> omega
  · refine k_MM_look_32 o8 hco ?_
    rw [r20w w8]
    exact ⟨w8.1.1, (w8.nu n95).1, fun _ => ⟨fun q => absurd q z, fun _ => ⟨⟨k8.1, Or.inl rfl, Or.inl z⟩, Or.inl (by rw [← f16]; exact z)⟩⟩, fun q => absurd (Or.inr z) q⟩
end LWX
end
section
/-! The reference's values, exactly: divisor, pushFraction, reckon, best. -/
section RKX
variable {G : mG} {d a V : Nat} {M : mM}
/-- a value has been reckoned, or a fault told: v -/
def rkX (M : mM) (a V : Nat) (t : Int) (v : vrs) (M' : mM) : Prop := rkQ M a V t M' ∧ ((v.1 ≠ 0 ∧ mI M' a 16 = v.1 ∧ mI M' a 17 = v.2.1) ∨ (mI M' a 16 = mI M a 16 ∧ v = vr9 t (mL M' (a + 97) V) (mL M' (a + 98) V)))
theorem psQ.rkx {t A B : Int} {v : vrs} {M' : mM} (h : psQ M a V A B M') (hv : vok t A B) (e : v = vr9 t A B) : rkX M a V t v M' := by
  refine ⟨h.rk hv, Or.inr ⟨h.2.2.1 16 (by omega), ?_⟩⟩
  rw [h.2.2.2.1 V, h.2.2.2.2 V, if_pos rfl, if_pos rfl]
  exact e
theorem st_rkx {t c p : Int} {M' : mM} (hc : c ≠ 0) (h : Mv (fun _ => False) (fun x => x = a) M a M' ∧ mI M' a 16 = c ∧ mI M' a 17 = p ∧ ∀ i, i ≠ 16 → i ≠ 17 → mI M' a i = mI M a i) (w : Wd M a) : rkX M a V t (c, p, 0) M' := ⟨st_rk hc h w, Or.inl ⟨hc, h.2.1, h.2.2.1⟩⟩
theorem gcd_st {x y : Int} (hx : 0 ≤ x) (hy : 0 < y) : Int.gcd y (x % y) = Int.gcd x y := by
  obtain ⟨p, rfl⟩ : ∃ p : Nat, x = p := ⟨x.toNat, by omega⟩
  obtain ⟨q, rfl⟩ : ∃ q : Nat, y = q := ⟨y.toNat, by omega⟩
  have e : (p : Int) % (q : Int) = ((p % q : Nat) : Int) := rfl
  rw [e, Int.gcd_natCast_natCast, Int.gcd_natCast_natCast, Nat.gcd_comm p q, Nat.gcd_rec q p, Nat.gcd_comm]
theorem x_MM_divisor {A B : Int} (hA : -9223372036854775807 ≤ A ∧ A ≤ 9223372036854775807) (hB : 0 < B ∧ i64 B) (hO : mOk M) : Cj G y_MM_divisor d [vl A, vl B] M (fun x M' => M' = M ∧ (1 ≤ x ∧ x ≤ B ∧ x ∣ A ∧ x ∣ B) ∧ x = (Int.gcd A B : Int)) := by
  refine k_MM_divisor hO ⟨by omega, by omega⟩ hB.2 (fun v hv => ?_)
  have cz : ∀ z : Int, (0 ≤ cmpL z 0 ↔ 0 ≤ z) ∧ (cmpL z 0 ≤ 0 ↔ z ≤ 0) := fun z => by unfold cmpL; split <;> (try split) <;> omega
  have hg : Int.gcd v B = Int.gcd A B := by
    split at hv
    · rw [hv]
    · rw [hv, Int.neg_gcd]
  have hv' : 0 ≤ v ∧ i64 v ∧ ∀ x : Int, x ∣ v → x ∣ A := by
    by_cases q : 0 ≤ A
    · rw [if_pos ((cz A).1.2 q)] at hv
      subst hv
      exact ⟨q, ⟨by omega, by omega⟩, fun x hx => hx⟩
    · rw [if_neg (fun w => q ((cz A).1.1 w))] at hv
      subst hv
      exact ⟨by omega, ⟨by omega, by omega⟩, fun x hx => Int.dvd_neg.1 hx⟩
  suffices H : ∀ (c : Nat) (x y : Int), y ≤ c → 0 ≤ y → 0 ≤ x → 0 < x + y → i64 x → i64 y → (y = 0 → x ≤ B) → y ≤ B → (∀ z : Int, z ∣ x → z ∣ y → z ∣ A ∧ z ∣ B) → Int.gcd x y = Int.gcd A B → h_MM_divisor_17 G d x y M (fun x M' => M' = M ∧ (1 ≤ x ∧ x ≤ B ∧ x ∣ A ∧ x ∣ B) ∧ x = (Int.gcd A B : Int)) from
    H B.toNat v B (by omega) (by omega) hv'.1 (by omega) hv'.2.1 hB.2 (by omega) (by omega) (fun z z1 z2 => ⟨hv'.2.2 z z1, z2⟩) hg
  intro c
  induction c with
  | zero =>
    intro x y h1 h2 h3 h4 h5 h6 h7 h8 h9 h10
    have y0 : y = 0 := by omega
    refine k_MM_divisor_17 hO h5 h6 ⟨fun _ => ⟨rfl, ⟨by omega, h7 y0, ?_⟩, ?_⟩, fun q => absurd ((cz y).2.2 (by omega)) q⟩
    · exact h9 x (Int.dvd_refl x) (by rw [y0]; exact Int.dvd_zero x)
    · rw [← h10, y0, Int.gcd_zero_right]; omega
  | succ c ih =>
    intro x y h1 h2 h3 h4 h5 h6 h7 h8 h9 h10
    refine k_MM_divisor_17 hO h5 h6 ⟨fun q => ?_, fun q => ?_⟩
    · have y0 : y = 0 := by have := (cz y).2.1 q; omega
      exact ⟨rfl, ⟨by omega, h7 y0, h9 x (Int.dvd_refl x) (by rw [y0]; exact Int.dvd_zero x)⟩, by rw [← h10, y0, Int.gcd_zero_right]; omega⟩
    · have yp : 0 < y := by
        by_cases w : y ≤ 0
        · exact absurd ((cz y).2.2 w) q
        · omega
      have e1 : Int.tmod x y = x % y := Int.tmod_eq_emod_of_nonneg h3
      have b1 := Int.emod_nonneg x (show y ≠ 0 by omega)
      have b2 := Int.emod_lt_of_pos x yp
      refine ⟨by omega, ?_⟩
      rw [e1]
      refine ih y (x % y) (by omega) b1 (by omega) (by omega) h6 ⟨by omega, by have := h6.2; omega⟩ (fun _ => h8) (by omega) (fun z z1 z2 => h9 z ?_ z1) (by rw [gcd_st h3 yp]; exact h10)
      have := Int.mul_ediv_add_emod x y
      rw [← this]
      exact Int.dvd_add (Int.dvd_trans z1 (Int.dvd_mul_right y _)) z2
theorem x_MM_pushFraction {A B p : Int} (hA : -9223372036854775807 ≤ A ∧ A ≤ 9223372036854775807) (hB : 0 < B ∧ i64 B) (hp : i32 p) (hO : mOk M) (h : Wd M a) (hV : mI M a 23 = (V : Int)) (hb : V < 16400) : Cv G y_MM_pushFraction (d + 1) [vr a, vl A, vl B, vi p] M (fun M' => mOk M' ∧ rkX M a V 0 (vst A B p) M') := by
  refine Cv.mono (Q := rkX M a V 0 (vst A B p)) ?_ (fun M' t => ⟨t.1.1.1, t⟩)
  refine k_MM_pushFraction hO ⟨by omega, by omega⟩ hB.2 hp ((x_MM_divisor hA hB hO).mono (fun x M1 h1 => ?_))
  obtain ⟨e1, ⟨x1, x2, ⟨c, hc⟩, ⟨e, he⟩⟩, hgc⟩ := h1
  subst e1
  have dA : Int.tdiv A x = c := by rw [hc]; exact Int.mul_tdiv_cancel_left c (by omega)
  have dB : Int.tdiv B x = e := by rw [he]; exact Int.mul_tdiv_cancel_left e (by omega)
  have c1 : 0 ≤ c → c ≤ A := fun y => by
    have := Int.mul_le_mul_of_nonneg_right x1 y
    rw [← hc] at this
    omega
  have c2 : c ≤ 0 → A ≤ c := fun y => by
    have := Int.mul_le_mul_of_nonneg_right x1 (show 0 ≤ -c by omega)
    rw [Int.mul_neg, Int.mul_neg, ← hc] at this
    omega
  have e0 : 0 < e := by
    by_cases y : 0 < e
    · exact y
    · have := Int.mul_le_mul_of_nonneg_left (show e ≤ 0 by omega) (show 0 ≤ x by omega)
      rw [← he] at this
      omega
  have e1 : e ≤ B := by
    have := Int.mul_le_mul_of_nonneg_right x1 (show 0 ≤ e by omega)
    rw [← he] at this
    omega
  have ic : i64 c := ⟨by omega, by omega⟩
  have ie : i64 e := ⟨by omega, by have := hB.2.2; omega⟩
  have ev : vst A B p = if 1000000000 ≤ c ∨ c ≤ -1000000000 ∨ 1000000000 ≤ e then (6, p, 0) else (0, c, e) := by
    unfold vst
    rw [← hgc]
    have cA : A / x = c := by rw [hc]; exact Int.mul_ediv_cancel_left c (by omega)
    have cB : B / x = e := by rw [he]; exact Int.mul_ediv_cancel_left e (by omega)
    rw [cA, cB]
  have q1 := (cmpz c 1000000000).1
  have q2 := (cmpz c (-1000000000)).2.1
  have q3 := (cmpz e 1000000000).2.2.1
  rw [dA, dB]
  refine ⟨⟨by omega, by have := hB.2.2; omega⟩, hO, by omega, by omega, ic, fun _ _ => ie, fun q => ⟨h.1.1, (s_MM_stop ⟨by omega, by omega⟩ hp hO h).mono (fun M2 h2 => ?_)⟩, fun q => ⟨h.1.1, (s_MM_push ic ie hO h hV hb).mono (fun M2 h2 => ⟨h2.1, h2.2.rkx (Or.inl ?_) ?_⟩)⟩⟩
  · obtain ⟨m2, f1, f2, f3⟩ := id h2
    refine ⟨m2.1, m2.2.1.1.1, (s_MM_push ic ie m2.1 m2.2.1 (by rw [f3 23 (by omega) (by omega)]; exact hV) hb).mono (fun M3 h3 => ⟨h3.1, ?_⟩)⟩
    obtain ⟨k1, k2, k3, -⟩ := st_rk (V := V) (t := 0) (by omega) h2 h
    obtain ⟨g1, g2, g3, g4, g5⟩ := h3.2
    rw [q1, q2, q3] at q
    rw [ev, if_pos (by omega)]
    exact ⟨⟨k1.trans g1, fun i i1 i2 i3 => (g3 i i3).trans (k2 i i1 i2 i3), fun k hk => ⟨by rw [g4, if_neg (by omega)]; exact (k3 k hk).1, by rw [g5, if_neg (by omega)]; exact (k3 k hk).2⟩, Or.inl (by rw [g3 16 (by omega), f1]; decide)⟩, Or.inl ⟨by simp, by rw [g3 16 (by omega), f1], by rw [g3 17 (by omega), f2]⟩⟩
  · rw [q1, q2, q3] at q
    omega
  · rw [q1, q2, q3] at q
    rw [ev, if_neg (by omega)]
    rfl
theorem x_MM_reckon {s A B C D p : Int} (hs : 24 ≤ s ∧ s ≤ 28) (h1 : vok 0 A B) (h2 : vok 0 C D) (hp : i32 p) (hO : mOk M) (h : Wd M a) (hV : mI M a 23 = (V : Int)) (hb : V < 16400) : Cv G y_MM_reckon (d + 2) [vr a, vi s, vl A, vl B, vl C, vl D, vi p] M (fun M' => mOk M' ∧ rkX M a V 0 (vop s A B C D p) M') := by
  refine Cv.mono (Q := rkX M a V 0 (vop s A B C D p)) ?_ (fun M' t => ⟨t.1.1.1, t⟩)
  have a1 : -1000000000 < A ∧ A < 1000000000 ∧ 1 ≤ B ∧ B < 1000000000 := by unfold vok at h1; omega
  have a2 : -1000000000 < C ∧ C < 1000000000 ∧ 1 ≤ D ∧ D < 1000000000 := by unfold vok at h2; omega
  have mAD := mul9 (x := A) (y := D) ⟨a1.1, a1.2.1⟩ ⟨by omega, by omega⟩
  have mCB := mul9 (x := C) (y := B) ⟨a2.1, a2.2.1⟩ ⟨by omega, by omega⟩
  have mAC := mul9 (x := A) (y := C) ⟨a1.1, a1.2.1⟩ ⟨by omega, by omega⟩
  have mBD := mul9 (x := B) (y := D) ⟨by omega, by omega⟩ ⟨by omega, by omega⟩
  have pBD : 0 < B * D := Int.mul_pos (by omega) (by omega)
  have iBD : 0 < B * D ∧ i64 (B * D) := ⟨pBD, by omega, by omega⟩
  have stp : ∀ {c : Int}, (c = 7 ∨ c = 8) → vop s A B C D p = (c, p, 0) → Cv G y_MM_stop (d + 1) [vr a, vi c, vi p] M (fun M' => mOk M' ∧ rkX M a V 0 (vop s A B C D p) M') := fun {c} hc ec => (s_MM_stop ⟨by omega, by omega⟩ hp hO h).mono (fun M2 h2 => ⟨h2.1.1, by rw [ec]; exact st_rkx (by omega) h2 h⟩)
  have pf : ∀ {U W : Int}, (-9223372036854775807 ≤ U ∧ U ≤ 9223372036854775807) → (0 < W ∧ i64 W) → vop s A B C D p = vst U W p → Cv G y_MM_pushFraction (d + 1) [vr a, vl U, vl W, vi p] M (fun M' => mOk M' ∧ rkX M a V 0 (vop s A B C D p) M') := fun hU hW e => by rw [e]; exact x_MM_pushFraction (d := d) hU hW hp hO h hV hb
  have cz0 := (cmpz C 0).2.2.2.1
  have cz1 := (cmpz C 0).1
  have cz2 := (cmpz C 0).2.2.2.2
  have bz := (cmpz B 1).2.2.2.1
  have dz := (cmpz D 1).2.2.2.1
  refine k_MM_reckon hO ⟨by omega, by omega⟩ ⟨by omega, by omega⟩ ⟨by omega, by omega⟩ ⟨by omega, by omega⟩ ⟨by omega, by omega⟩ hp ⟨fun e1 => ⟨h.1.1, pf ⟨by omega, by omega⟩ iBD (by subst e1; rfl)⟩, fun q1 => ⟨fun e1 => ⟨h.1.1, pf ⟨by omega, by omega⟩ iBD (by subst e1; rfl)⟩, fun q2 => ⟨fun e1 => ⟨h.1.1, pf ⟨by omega, by omega⟩ iBD (by subst e1; rfl)⟩, fun q3 => ⟨fun q4 => ⟨fun q5 => ⟨h.1.1, (stp (Or.inl rfl) (by
      have c0 := cz0.mp q5
      subst q4 c0
      unfold vop
      simp)).mono (fun M2 t => ⟨t.1, k_MM_reckon_156 t.1 t.2⟩)⟩, fun q5 v hv v2 hv2 => ⟨h.1.1, (pf ?_ ?_ ?_).mono (fun M2 t => ⟨t.1, k_MM_reckon_156 t.1 t.2⟩)⟩⟩, fun q4 => ⟨fun q5 => ⟨fun q6 => ⟨?_, ?_, fun v hv => ⟨h.1.1, (s_MM_push ?_ ⟨by omega, by omega⟩ hO h hV hb).mono (fun M2 t => ⟨t.1, k_MM_reckon_228 t.1 (t.2.rkx (Or.inl ?_) ?_)⟩)⟩⟩, fun q6 => ⟨h.1.1, (stp (Or.inl rfl) (by
      have s28 : s = 28 := by omega
      subst s28
      have b1 : B = 1 ∧ D = 1 := by omega
      have c0 : C ≤ 0 := by omega
      unfold vop
      simp [b1.1, b1.2, c0])).mono (fun M2 t => ⟨t.1, k_MM_reckon_228 t.1 t.2⟩)⟩⟩, fun q5 => ⟨h.1.1, (stp (Or.inr rfl) (by
      have s28 : s = 28 := by omega
      subst s28
      have b1 : B ≠ 1 ∨ D ≠ 1 := by omega
      unfold vop
      simp [b1])).mono (fun M2 t => ⟨t.1, k_MM_reckon_228 t.1 t.2⟩)⟩⟩⟩⟩⟩⟩
  · by_cases y : 0 ≤ cmpL C 0
    · rw [if_pos y] at hv; omega
    · rw [if_neg y, Int.neg_mul] at hv; omega
  · have c0 : C ≠ 0 := fun y => q5 ((cmpz C 0).2.2.2.1.2 y)
    by_cases y : 0 ≤ cmpL C 0
    · rw [if_pos y] at hv2
      have := (cmpz C 0).1.1 y
      have : 0 < C * B := Int.mul_pos (by omega) (by omega)
      exact ⟨by omega, by omega, by omega⟩
    · rw [if_neg y] at hv2
      have : ¬ 0 ≤ C := fun z => y ((cmpz C 0).1.2 z)
      have : 0 < (-C) * B := Int.mul_pos (by omega) (by omega)
      have e := Int.neg_mul C B
      exact ⟨by omega, by omega, by omega⟩
  · subst q4
    have c0 : C ≠ 0 := fun y => q5 (cz0.mpr y)
    unfold vop
    by_cases y : 0 ≤ cmpL C 0
    · have c1 : 0 < C := by have := cz1.mp y; omega
      rw [if_pos y] at hv hv2
      rw [hv, hv2, Int.mul_comm C B]
      simp [c0, c1]
    · have c1 : ¬ 0 < C := fun u => y (cz1.mpr (by omega))
      rw [if_neg y] at hv hv2
      rw [hv, hv2, Int.neg_mul, Int.neg_mul, Int.mul_comm C B]
      simp [c0, c1]
  · have := (cmpz C 0).2.2.2.2.1 q6
    omega
  · have := (cmpz C 0).2.2.2.2.1 q6
    exact ⟨fun _ => by omega, fun _ => by omega⟩
  · have c0 := (cmpz C 0).2.2.2.2.1 q6
    have t9 := tmod9 (x := A) c0
    by_cases y : 0 ≤ cmpL (Int.tmod A C) 0
    · rw [if_pos y] at hv; exact ⟨by omega, by omega⟩
    · rw [if_neg y] at hv; exact ⟨by omega, by omega⟩
  · have c0 := (cmpz C 0).2.2.2.2.1 q6
    have t9 := tmod9 (x := A) c0
    by_cases y : 0 ≤ cmpL (Int.tmod A C) 0
    · rw [if_pos y] at hv
      have := (cmpz (Int.tmod A C) 0).1.1 y
      omega
    · rw [if_neg y] at hv
      have : ¬ 0 ≤ Int.tmod A C := fun z => y ((cmpz (Int.tmod A C) 0).1.2 z)
      omega
  · have s28 : s = 28 := by omega
    subst s28
    have c0 := cz2.mp q6
    have b1 : B = 1 ∧ D = 1 := by omega
    have c1 : ¬ C ≤ 0 := by omega
    have em : v = A % C := by
      have e0 := Int.mul_tdiv_add_tmod A C
      have t9 := tmod9 (x := A) c0
      by_cases y : 0 ≤ cmpL (Int.tmod A C) 0
      · rw [if_pos y] at hv
        have t0 := (cmpz (Int.tmod A C) 0).1.1 y
        have e2 : (Int.tmod A C + C * Int.tdiv A C) % C = Int.tmod A C := by
          rw [Int.add_mul_emod_self_left]
          exact Int.emod_eq_of_lt t0 t9.2
        rw [Int.add_comm, e0] at e2
        rw [hv, e2]
      · rw [if_neg y] at hv
        have t0 : ¬ 0 ≤ Int.tmod A C := fun z => y ((cmpz (Int.tmod A C) 0).1.2 z)
        have e1 : A = (Int.tmod A C + C) + C * (Int.tdiv A C - 1) := by
          rw [Int.mul_sub]
          omega
        have e2 : ((Int.tmod A C + C) + C * (Int.tdiv A C - 1)) % C = Int.tmod A C + C := by
          rw [Int.add_mul_emod_self_left]
          exact Int.emod_eq_of_lt (by omega) (by omega)
        rw [← e1] at e2
        rw [hv, e2]
    unfold vop
    rw [em]
    simp [b1.1, b1.2, c1, vr9]
/-- the best of the values from k on, n + 1 of them; x = 14 the least, 15 the most -/
def bsq (x : Int) (A B : Nat → Int) (k : Nat) : Nat → vrs
  | 0 => (0, A k, B k)
  | n + 1 => vbs x (bsq x A B k n).2.1 (bsq x A B k n).2.2 (A (k + n + 1)) (B (k + n + 1))
theorem x_MM_best {k m : Nat} {l : Int} (hl : i32 l) (hm : 1 ≤ m) (hO : mOk M) (h : Wd M a) (hV : mI M a 23 = (V : Int)) (hb : V < 16400) (hk : k + m ≤ 16400) (hv : ∀ j, k ≤ j → j < k + m → vok 0 (mL M (a + 97) j) (mL M (a + 98) j)) : Cv G y_MM_best (d + 1) [vr a, vi l, vi k, vi m] M (fun M' => mOk M' ∧ rkX M a V 0 (bsq (if l = 0 then 15 else 14) (mL M (a + 97)) (mL M (a + 98)) k (m - 1)) M') := by
  refine Cv.mono (Q := rkX M a V 0 (bsq (if l = 0 then 15 else 14) (mL M (a + 97)) (mL M (a + 98)) k (m - 1))) ?_ (fun M' t => ⟨t.1.1.1, t⟩)
  have r21 : mR M a 21 = a + 97 := h.1.2.2.2.2.1.2.2.2.2.2.2.1
  have r22 : mR M a 22 = a + 98 := h.1.2.2.2.2.1.2.2.2.2.2.2.2.1
  have n97 : mK M (a + 97) = 33 ∧ mN M (a + 97) = 16400 := h.1.2.2.2.2.2.2.2.1.1
  have n98 : mK M (a + 98) = 33 ∧ mN M (a + 98) = 16400 := h.1.2.2.2.2.2.2.2.1.2.1
  refine k_MM_best hO hl ⟨by omega, by omega⟩ ⟨by omega, by omega⟩ ?_
  suffices H : ∀ (c i f : Nat), c + i = k + m → k ≤ f → f < k + m → k ≤ i → k < i → bsq (if l = 0 then 15 else 14) (mL M (a + 97)) (mL M (a + 98)) k (i - k - 1) = (0, mL M (a + 97) f, mL M (a + 98) f) → h_MM_best_8 G d a l k m f i M (rkX M a V 0 (bsq (if l = 0 then 15 else 14) (mL M (a + 97)) (mL M (a + 98)) k (m - 1))) from
    H (m - 1) (k + 1) k (by omega) (by omega) (by omega) (by omega) (by omega) (by rw [show k + 1 - k - 1 = 0 by first | rfl | omega]; rfl)
  intro c
  induction c with
  | zero =>
    intro i f hc f1 f2 hi hki hb9
    refine k_MM_best_8 hO hl ⟨by omega, by omega⟩ ⟨by omega, by omega⟩ ⟨by omega, by omega⟩ ⟨by omega, by omega⟩ ?_
    rw [r21, r22, n97.2, n98.2, Int.toNat_natCast]
    have hf := hv f f1 f2
    refine ⟨⟨by omega, by omega⟩, fun _ => ⟨h.1.1, n97.1, by omega, n98.1, by omega, (s_MM_push (hO _ _).2 (hO _ _).2 hO h hV hb).mono (fun M2 t => ⟨t.1, t.2.rkx hf (by rw [show m - 1 = i - k - 1 by first | rfl | omega, hb9]; rfl)⟩)⟩, fun q => by omega⟩
  | succ c ih =>
    intro i f hc f1 f2 hi hki hb9
    refine k_MM_best_8 hO hl ⟨by omega, by omega⟩ ⟨by omega, by omega⟩ ⟨by omega, by omega⟩ ⟨by omega, by omega⟩ ?_
    rw [r21, r22, n97.2, n98.2, Int.toNat_natCast, Int.toNat_natCast]
    have hf := hv f f1 f2
    have hi' := hv i hi (by omega)
    unfold vok at hf hi'
    have m1 := mul9 (x := mL M (a + 97) i) (y := mL M (a + 98) f) ⟨by omega, by omega⟩ ⟨by omega, by omega⟩
    have m2 := mul9 (x := mL M (a + 97) f) (y := mL M (a + 98) i) ⟨by omega, by omega⟩ ⟨by omega, by omega⟩
    refine ⟨⟨by omega, by omega⟩, fun q => by omega, fun _ => ⟨h.1.1, n97.1, by omega, n98.1, by omega, by omega, by omega, ⟨fun _ _ => ⟨by omega, by omega⟩, fun _ => ⟨by omega, by omega⟩⟩, fun v hv2 => ?_⟩⟩
    have stp : bsq (if l = 0 then 15 else 14) (mL M (a + 97)) (mL M (a + 98)) k (i + 1 - k - 1) = vbs (if l = 0 then 15 else 14) (mL M (a + 97) f) (mL M (a + 98) f) (mL M (a + 97) i) (mL M (a + 98) i) := by
      rw [show i + 1 - k - 1 = (i - k - 1) + 1 by first | rfl | omega, bsq, hb9, show k + (i - k - 1) + 1 = i by first | rfl | omega]
    have cz := cmpz (mL M (a + 97) i * mL M (a + 98) f - mL M (a + 97) f * mL M (a + 98) i) 0
    clear m1 m2 hf hi'
    split at hv2
    · rename_i z
      rw [hv2]
      refine ih (i + 1) f (by omega) f1 f2 (by omega) (by omega) ?_
      rw [stp]
      unfold vbs
      by_cases l0 : l = 0
      · rw [if_pos l0, if_neg (by decide), if_neg (by omega)]
      · rw [if_neg l0, if_pos rfl, if_neg (by omega)]
    · rename_i z
      rw [hv2]
      refine ih (i + 1) i (by omega) hi (by omega) (by omega) (by omega) ?_
      rw [stp]
      unfold vbs
      by_cases l0 : l = 0
      · rw [if_pos l0, if_neg (by decide), if_pos (by omega)]
      · rw [if_neg l0, if_pos rfl, if_pos (by omega)]
end RKX
end
section
/-! The reference's values, exactly: finish, names, leaves, choose. -/
section FNX
variable {G : mG} {F : Prop} {d a g R W T V n X : Nat} {M : mM}
theorem rkX.pre {t : Int} {v : vrs} {M2 M' : mM} (m : Mv (fun _ => False) (fun x => x = a) M a M2) (f : ∀ i, i ≠ 23 → mI M2 a i = mI M a i) (w : Wd M a) (h : rkX M2 a V t v M') : rkX M a V t v M' := by
  refine ⟨h.1.pre m f w, ?_⟩
  rw [← f 16 (by omega)]
  exact h.2
/-- what a node's value is, from its parts' values -/
def fnv (s p : Int) (k : Nat) (u : Nat → vrs) : vrs := if s = 31 then (0, 1 - (u 0).2.1, (u 0).2.2) else if s = 45 then (0, -(u 0).2.1, (u 0).2.2) else if s = 14 ∨ s = 15 then bsq s (fun j => (u j).2.1) (fun j => (u j).2.2) 0 (k - 1) else vop s (u 0).2.1 (u 0).2.2 (u 1).2.1 (u 1).2.2 p
theorem bsq_cg {x : Int} {A B A' B' : Nat → Int} {k k' : Nat} : ∀ n : Nat, (∀ j, j ≤ n → A (k + j) = A' (k' + j) ∧ B (k + j) = B' (k' + j)) → bsq x A B k n = bsq x A' B' k' n
  | 0, h => by
    have := h 0 (by omega)
    show (0, A (k + 0), B (k + 0)) = (0, A' (k' + 0), B' (k' + 0))
    rw [this.1, this.2]
  | n + 1, h => by
    have := h (n + 1) (by omega)
    rw [bsq, bsq, bsq_cg n (fun j hj => h j (by omega)), show k + n + 1 = k + (n + 1) by first | rfl | omega, show k' + n + 1 = k' + (n + 1) by first | rfl | omega, this.1, this.2]
theorem cmpv {s u b p a b1 c d : Int} (hs : 18 ≤ s ∧ s ≤ 23) (hu : u = a * d - c * b1) (hb : b = (if (((s = 23) ∧ (cmpL u 0 = 0)) ∨ ((¬ (s = 23)) ∧ (((s = 18) ∧ (¬ (cmpL u 0 = 0))) ∨ ((¬ (s = 18)) ∧ (((s = 21) ∧ (¬ (0 ≤ cmpL u 0))) ∨ ((¬ (s = 21)) ∧ (((s = 19) ∧ (¬ (0 < cmpL u 0))) ∨ ((¬ (s = 19)) ∧ (((s = 22) ∧ (¬ (cmpL u 0 ≤ 0))) ∨ ((¬ (s = 22)) ∧ (¬ (cmpL u 0 < 0)))))))))))) then 1 else 0)) : vop s a b1 c d p = (0, (if b = 0 then 0 else 1), 1) := by
  have cz := cmpz u 0
  have fin : ∀ (q : Prop) [Decidable q], (b = if q then 1 else 0) → vtr q = (0, (if b = 0 then 0 else 1), 1) := fun q _ e => by
    unfold vtr
    by_cases c : q
    · rw [if_pos c] at e ⊢
      rw [e]; rfl
    · rw [if_neg c] at e ⊢
      rw [e]; rfl
  have cg : ∀ (q : Prop) [Decidable q], ((((s = 23) ∧ (cmpL u 0 = 0)) ∨ ((¬ (s = 23)) ∧ (((s = 18) ∧ (¬ (cmpL u 0 = 0))) ∨ ((¬ (s = 18)) ∧ (((s = 21) ∧ (¬ (0 ≤ cmpL u 0))) ∨ ((¬ (s = 21)) ∧ (((s = 19) ∧ (¬ (0 < cmpL u 0))) ∨ ((¬ (s = 19)) ∧ (((s = 22) ∧ (¬ (cmpL u 0 ≤ 0))) ∨ ((¬ (s = 22)) ∧ (¬ (cmpL u 0 < 0)))))))))))) ↔ q) → vtr q = (0, (if b = 0 then 0 else 1), 1) := fun q _ e => fin q (by
      rw [hb]
      by_cases c : q
      · rw [if_pos c, if_pos (e.mpr c)]
      · rw [if_neg c, if_neg (fun z => c (e.mp z))])
  have s6 : s = 18 ∨ s = 19 ∨ s = 20 ∨ s = 21 ∨ s = 22 ∨ s = 23 := by omega
  unfold vop
  rcases s6 with e | e | e | e | e | e
  · rw [if_neg (by omega), if_neg (by omega), if_neg (by omega), if_neg (by omega), if_neg (by omega), if_pos e]
    exact cg _ (by constructor <;> intro h <;> omega)
  · rw [if_neg (by omega), if_neg (by omega), if_neg (by omega), if_neg (by omega), if_neg (by omega), if_neg (by omega), if_pos e]
    exact cg _ (by constructor <;> intro h <;> omega)
  · rw [if_neg (by omega), if_neg (by omega), if_neg (by omega), if_neg (by omega), if_neg (by omega), if_neg (by omega), if_neg (by omega), if_pos e]
    exact cg _ (by constructor <;> intro h <;> omega)
  · rw [if_neg (by omega), if_neg (by omega), if_neg (by omega), if_neg (by omega), if_neg (by omega), if_neg (by omega), if_neg (by omega), if_neg (by omega), if_pos e]
    exact cg _ (by constructor <;> intro h <;> omega)
  · rw [if_neg (by omega), if_neg (by omega), if_neg (by omega), if_neg (by omega), if_neg (by omega), if_neg (by omega), if_neg (by omega), if_neg (by omega), if_neg (by omega), if_pos e]
    exact cg _ (by constructor <;> intro h <;> omega)
  · rw [if_neg (by omega), if_neg (by omega), if_neg (by omega), if_neg (by omega), if_neg (by omega), if_neg (by omega), if_neg (by omega), if_neg (by omega), if_neg (by omega), if_neg (by omega)]
    exact cg _ (by constructor <;> intro h <;> omega)
theorem x_MM_finish {nm : Int → Prop} {k f e : Nat} {c : Nat → Int} {t : Int} (h : Ev F M a g R W T) (hn : n < T) (hk : 1 ≤ k) (ha : ari (so M g n) k) (hne : so M g n ≠ 29 ∧ so M g n ≠ 30 ∧ so M g n ≠ 32) (hf : fp M g n = ((n + 1 : Nat) : Int)) (ht : Tn nm M g f k (n + 1) e) (he : e ≤ T) (hty : tyr (so M g n) k c t) (hv : ∀ j, j < k → vok (c j) (mL M (a + 97) (V + j)) (mL M (a + 98) (V + j))) (hV : mI M a 23 = (V + k : Nat)) (hb : V + k ≤ 16400) : Cv G y_MM_finish (d + 3) [vr a, vr g, vi n] M (fun M' => mOk M' ∧ rkX M a V t (fnv (so M g n) (pm M g n) k (fun j => vr9 (c j) (mL M (a + 97) (V + j)) (mL M (a + 98) (V + j)))) M') := by
  generalize ev : (fnv (so M g n) (pm M g n) k (fun j => vr9 (c j) (mL M (a + 97) (V + j)) (mL M (a + 98) (V + j)))) = vv
  obtain ⟨hO, w, hg, hd, hB, -, -⟩ := id h
  have gp := w.gp hg
  have r0 : mR M g 0 = g + 1 := gp.2.1.1
  have r1 : mR M g 1 = g + 3 := gp.2.1.2.1
  have r4 : mR M g 4 = g + 9 := gp.2.1.2.2.2.2.1
  have i1 := tL_in (a := a) (q := g + 1) hg (tLk1 g)
  have i3 := tL_in (a := a) (q := g + 3) hg (tLk3 g)
  have i9 := tL_in (a := a) (q := g + 9) hg (tLk9 g)
  have l1 := hd (g + 1) (by first | exact tLk1 g | exact gLk1 g | omega)
  have l3 := hd (g + 3) (by first | exact tLk3 g | exact gLk3 g | omega)
  have l9 := hd (g + 9) (by first | exact tLk9 g | exact gLk9 g | omega)
  have rd : ∀ {p j : Nat} {Q : Int → mM → Prop}, p ∈ nums a → (j : Int) < ln M p → (∀ z, z = nt M p j → i32 z → Q z M) → Ci G y_MN_at (d + 2) [vr p, vi j] M Q := fun hp hk hQ => by
    refine (s_MN_at hO (w.nu hp) hk).mono (fun z M1 e1 => ?_)
    obtain ⟨e1, hz⟩ := e1
    subst e1
    exact hQ z hz (by rw [hz]; exact (hO _ _).1)
  refine k_MM_finish hO (i32s (by omega) (by omega)) ?_
  rw [r0]
  refine ⟨gp.1, (w.nu i1).1, rd i1 (by omega) (fun s hs is => ⟨is, hO, gp.1, ?_⟩)⟩
  have hs' : s = so M g n := hs
  rw [← hs'] at ha hne hty ev
  rw [r1]
  refine ⟨(w.nu i3).1, rd i3 (by omega) (fun p hp ip => ⟨ip, hO, gp.1, ?_⟩)⟩
  have hp' : p = pm M g n := hp
  rw [← hp'] at ev
  rw [r4]
  refine ⟨(w.nu i9).1, rd i9 (by omega) (fun x hx ix => ⟨ix, hO, ?_⟩)⟩
  rw [show x = ((n + 1 : Nat) : Int) from hx.trans hf]
  have hge := ht.ge
  refine s_fin32 is ip h k f (n + 1) e 0 hk ht he (by omega) ?_
  refine k_MM_finish_32 hO is ip (i32s (by omega) (by omega)) (i32s (by omega) (by omega)) ⟨fun _ => ?_, fun q => absurd (by decide) q⟩
  rw [hV, show ((V + k : Nat) : Int) - ((0 + k : Nat) : Int) = (V : Int) by first | rfl | omega]
  refine ⟨w.1.1, i32s (by omega) (by omega), fun M2 e2 => ?_⟩
  obtain ⟨m2, f2⟩ := mv_fld (v := (V : Int)) (i32s (by omega) (by omega)) hO w e2
  have o2 := m2.1
  have w2 := m2.2.1
  have z := w.2.2.2
  have cl : ∀ x, x < mZ M → x ≠ a → mL M2 x = mL M x := fun x hx hne => (m2.2.2.2.1.2.2.2.1 x hx (fun y => y) (fun p y => y.elim) hne).2
  have r21 : mR M2 a 21 = a + 97 := w2.1.2.2.2.2.1.2.2.2.2.2.2.1
  have r22 : mR M2 a 22 = a + 98 := w2.1.2.2.2.2.1.2.2.2.2.2.2.2.1
  have n97 : mK M2 (a + 97) = 33 ∧ mN M2 (a + 97) = 16400 := w2.1.2.2.2.2.2.2.2.1.1
  have n98 : mK M2 (a + 98) = 33 ∧ mN M2 (a + 98) = 16400 := w2.1.2.2.2.2.2.2.2.1.2.1
  have hV2 : mI M2 a 23 = (V : Int) := by rw [f2, if_pos rfl]
  have fin : ∀ M', mOk M' ∧ rkX M2 a V t vv M' → mOk M' ∧ h_MM_finish_400 G (d + 2) M' (fun M' => mOk M' ∧ rkX M a V t vv M') := fun M' y => ⟨y.1, k_MM_finish_400 y.1 ⟨y.1, y.2.pre m2 (fun i hi => by rw [f2, if_neg hi]) w⟩⟩
  have tr : ∀ {b : Int}, i32 b → t = 1 → vv = (0, (if b = 0 then 0 else 1), 1) → Cv G y_MM_pushTruth (d + 2) [vr a, vi b] M2 (fun M' => mOk M' ∧ h_MM_finish_400 G (d + 2) M' (fun M' => mOk M' ∧ rkX M a V t vv M')) := fun {b} ib t1 eb => (s_MM_pushTruth (d := d + 1) ib o2 w2 hV2 (by omega)).mono (fun M' y => fin M' ⟨y.1, y.2.rkx (Or.inr ⟨t1, by by_cases q : b = 0; exact Or.inl (if_pos q); exact Or.inr (if_neg q), rfl⟩) (by rw [eb]; unfold vr9; rw [if_pos t1])⟩)
  have v0 := hv 0 (by omega)
  rw [show V + 0 = V by first | rfl | omega] at v0
  unfold tyr at hty
  rw [r21, r22, cl (a + 97) (by omega) (by omega), cl (a + 98) (by omega) (by omega), n97.2, n98.2, Int.toNat_natCast, show ((V : Int) + 1).toNat = V + 1 by first | rfl | omega]
  refine ⟨fun q1 => ⟨n97.1, by omega, fun b hb2 => tr (by split at hb2 <;> exact ⟨by omega, by omega⟩) ?_ ?_⟩, fun q1 => ?_⟩
  · rw [if_pos (by omega)] at hty; exact hty.2
  · rw [if_pos (by omega)] at hty
    rw [hty.1 0 (by omega)] at v0
    have cz := (cmpz (mL M (a + 97) V) 0).2.2.2.1
    unfold fnv vr9 at ev
    rw [if_pos q1] at ev
    rw [← ev]
    show (0, 1 - mL M (a + 97) (V + 0), (if c 0 = 1 then (1 : Int) else mL M (a + 98) (V + 0))) = _
    rw [show V + 0 = V by first | rfl | omega, hty.1 0 (by omega), if_pos rfl]
    unfold vok at v0
    rcases v0 with v0 | ⟨-, v0 | v0, -⟩
    · omega
    · rw [if_pos (cz.mpr v0)] at hb2
      rw [v0, hb2]; rfl
    · rw [if_neg (fun z => by have := cz.mp z; omega)] at hb2
      rw [v0, hb2]; rfl
  rw [if_neg (by omega)] at hty
  refine ⟨fun q2 => ?_, fun q2 => ⟨fun q3 b hb2 => ?_, fun q3 => k_MM_isComparison o2 is (fun v7 h7 => ⟨i32s (by split at h7 <;> omega) (by split at h7 <;> omega), o2, fun y => ?_, fun y => ?_⟩)⟩⟩
  · rw [if_neg (by omega), if_neg (by omega), if_neg (show ¬ (19 ≤ s ∧ s ≤ 22) by omega)] at hty
    have c0 := hty.1 0 (by omega)
    rw [c0] at v0
    unfold vok at v0
    refine ⟨n97.1, by omega, n98.1, by omega, (s_MM_push ⟨by omega, by omega⟩ ⟨by omega, by omega⟩ o2 w2 hV2 (by omega)).mono (fun M' y => fin M' ⟨y.1, y.2.rkx (Or.inl ⟨hty.2, by omega, by omega, by omega, by omega⟩) (by
      unfold fnv at ev
      rw [if_neg q1, if_pos q2] at ev
      rw [← ev]; dsimp only; rw [c0]
      unfold vr9
      rw [hty.2]
      rfl)⟩)⟩
  · rw [if_neg (by omega), if_neg (by omega), if_neg (show ¬ (19 ≤ s ∧ s ≤ 22) by omega)] at hty
    have t0 := hty.2
    subst t0
    rw [show (0 + k : Nat) = k by first | rfl | omega]
    have eb : bsq (if b = 0 then 15 else 14) (mL M2 (a + 97)) (mL M2 (a + 98)) V (k - 1) = vv := by
      unfold fnv at ev
      rw [if_neg q1, if_neg q2, if_pos q3] at ev
      rw [← ev, cl (a + 97) (by omega) (by omega), cl (a + 98) (by omega) (by omega)]
      have e14 : (if b = 0 then (15 : Int) else 14) = s := by
        rcases q3 with q3 | q3
        · rw [if_pos q3] at hb2
          rw [if_neg (by omega), q3]
        · rw [if_neg (by omega)] at hb2
          rw [if_pos hb2, q3]
      rw [e14]
      refine bsq_cg (k - 1) (fun j hj => ?_)
      show _ = mL M (a + 97) (V + (0 + j)) ∧ _ = (if c (0 + j) = 1 then (1 : Int) else mL M (a + 98) (V + (0 + j)))
      rw [show 0 + j = j by first | rfl | omega, hty.1 j (by omega)]
      exact ⟨rfl, rfl⟩
    rw [← eb] at fin
    refine (x_MM_best (d := d + 1) (by split at hb2 <;> exact ⟨by omega, by omega⟩) hk o2 w2 hV2 (by omega) hb (fun j j1 j2 => ?_)).mono (fun M' y => by rw [← eb]; exact fin M' y)
    have := hv (j - V) (by omega)
    rw [show V + (j - V) = j by first | rfl | omega, hty.1 (j - V) (by omega)] at this
    rw [cl (a + 97) (by omega) (by omega), cl (a + 98) (by omega) (by omega)]
    exact this
  · have s5 : 24 ≤ s ∧ s ≤ 28 ∧ k = 2 := by unfold ari at ha; split at h7 <;> omega
    rw [if_neg (by omega), if_neg (by omega), if_neg (show ¬ (19 ≤ s ∧ s ≤ 22) by omega)] at hty
    have v1 := hv 1 (by omega)
    rw [hty.1 1 (by omega)] at v1
    rw [hty.1 0 (by omega)] at v0
    have t0 := hty.2
    subst t0
    rw [r21, r22, cl (a + 97) (by omega) (by omega), cl (a + 98) (by omega) (by omega), n97.2, n98.2]
    exact ⟨w2.1.1, n97.1, by omega, n98.1, by omega, by omega, by omega, (x_MM_reckon (d := d) ⟨s5.1, s5.2.1⟩ v0 v1 ip o2 w2 hV2 (by omega)).mono (fun M' y => fin M' (by
      have e9 : vop s (mL M (a + 97) V) (mL M (a + 98) V) (mL M (a + 97) (V + 1)) (mL M (a + 98) (V + 1)) p = vv := by
        unfold fnv vr9 at ev
        rw [if_neg q1, if_neg q2, if_neg q3] at ev
        rw [← ev]
        show _ = vop s (mL M (a + 97) (V + 0)) (if c 0 = 1 then (1 : Int) else mL M (a + 98) (V + 0)) (mL M (a + 97) (V + 1)) (if c 1 = 1 then (1 : Int) else mL M (a + 98) (V + 1)) p
        rw [hty.1 0 (by omega), hty.1 1 (by omega), show V + 0 = V by first | rfl | omega]
        rfl
      rw [e9] at y
      exact y))⟩
  · have s5 : 18 ≤ s ∧ s ≤ 23 ∧ k = 2 := by unfold ari at ha; split at h7 <;> omega
    have v1 := hv 1 (by omega)
    have c01 : c 0 = c 1 ∧ t = 1 := by
      by_cases q : s = 18 ∨ s = 23
      · rw [if_pos q] at hty; exact hty
      · rw [if_neg q, if_neg (by omega), if_pos (show 19 ≤ s ∧ s ≤ 22 by omega)] at hty
        exact ⟨(hty.1 0 (by omega)).trans (hty.1 1 (by omega)).symm, hty.2⟩
    rw [c01.1] at v0
    rw [r21, r22, cl (a + 97) (by omega) (by omega), cl (a + 98) (by omega) (by omega), n97.2, n98.2]
    refine ⟨w2.1.1, n98.1, by omega, ⟨fun _ => ⟨n97.1, by omega, by omega⟩, fun _ => ⟨n97.1, by omega, by omega, by omega, by omega⟩⟩, fun u hu => ?_⟩
    have iu : i64 u := by
      by_cases q : cmpL (mL M (a + 98) V) 0 = 0
      · rw [if_pos q] at hu
        unfold vok at v0 v1
        exact ⟨by omega, by omega⟩
      · rw [if_neg q] at hu
        have q' : mL M (a + 98) V ≠ 0 := fun y => q ((cmpz _ 0).2.2.2.1.2 y)
        unfold vok at v0 v1
        have m1 := mul9 (x := mL M (a + 97) V) (y := mL M (a + 98) (V + 1)) ⟨by omega, by omega⟩ ⟨by omega, by omega⟩
        have m3 := mul9 (x := mL M (a + 97) (V + 1)) (y := mL M (a + 98) V) ⟨by omega, by omega⟩ ⟨by omega, by omega⟩
        exact ⟨by omega, by omega⟩
    exact ⟨⟨fun _ => iu, fun _ => ⟨fun _ => iu, fun _ => ⟨fun _ => iu, fun _ => ⟨fun _ => iu, fun _ => ⟨fun _ => iu, fun _ => iu⟩⟩⟩⟩⟩, fun b hb2 => tr (by rw [hb2]; split <;> exact ⟨by decide, by decide⟩) c01.2 (by
      unfold fnv vr9 at ev
      rw [if_neg q1, if_neg q2, if_neg q3] at ev
      rw [← ev]
      show vop s (mL M (a + 97) (V + 0)) (if c 0 = 1 then (1 : Int) else mL M (a + 98) (V + 0)) (mL M (a + 97) (V + 1)) (if c 1 = 1 then (1 : Int) else mL M (a + 98) (V + 1)) p = _
      refine cmpv (u := u) ⟨s5.1, s5.2.1⟩ ?_ hb2
      rw [c01.1, show V + 0 = V by first | rfl | omega]
      unfold vok at v0 v1
      rcases v0 with ⟨t0, v0⟩ | ⟨t0, v0, v02⟩
      · rw [t0, if_neg (by decide), if_neg (by decide)]
        rw [if_neg (fun y => by have := (cmpz _ 0).2.2.2.1.1 y; omega)] at hu
        exact hu
      · rw [t0, if_pos rfl, if_pos rfl]
        rw [if_pos ((cmpz _ 0).2.2.2.1.2 v02)] at hu
        rw [hu]; omega)⟩
theorem x_MM_name {v : Int} (hF9 : ¬ F) (h : Ev F M a g R W T) (hvn : nme F M g R W v) (hV : mI M a 23 = (V : Int)) (hb : V < 16400) (hl : ln M (a + 99) = (X : Int)) (hX : X ≤ 64000) : Cv G y_MM_name (d + 2) [vr a, vr g, vi v] M (fun M' => mOk M' ∧ vok (tn M g v) (mL M (g + 16) v.toNat) (mL M (g + 17) v.toNat) ∧ psQ M a V (mL M (g + 16) v.toNat) (mL M (g + 17) v.toNat) M') := by
  have hv : (0 ≤ v ∧ v < R) ∨ (100 ≤ v ∧ v < 100 + W) := hvn.elim (fun z => Or.inl ⟨z.1, z.2.1⟩) (fun z => Or.inr z.2)
  obtain ⟨hO, w, hg, hn, hB, hr, hw⟩ := h
  have gp := w.gp hg
  have r7 : mR M g 7 = g + 13 := gp.2.1.2.2.2.2.2.2.1
  have r9 : mR M g 9 = g + 15 := gp.2.1.2.2.2.2.2.2.2.2.1
  have r10 : mR M g 10 = g + 16 := gp.2.1.2.2.2.2.2.2.2.2.2.1
  have r11 : mR M g 11 = g + 17 := gp.2.1.2.2.2.2.2.2.2.2.2.2
  have r13 : mR M g 13 = g + 18 := gp.2.2.1.1
  have B := w.1.2.2.2.2.1.2.2.2.2.2.2.2.2.2
  have r25 : mR M a 25 = a + 101 := B.1
  have r26 : mR M a 26 = a + 102 := B.2.1
  have r27 : mR M a 27 = a + 103 := B.2.2.1
  have r28 : mR M a 28 = a + 104 := B.2.2.2
  have A8 := w.1.2.2.2.2.2.2.2.1
  have g13 := gp.2.2.2.1.1
  have g15 := gp.2.2.2.1.2.2.1
  have g16 := gp.2.2.2.1.2.2.2.1
  have g17 := gp.2.2.2.1.2.2.2.2
  have g18 := gp.2.2.2.2.1.1
  refine k_MM_name hO ⟨by omega, by omega⟩ ?_
  rw [r7, r10, r11, r13, r25, r26, r27, r28]
  refine ⟨fun q => ?_, fun q => ?_⟩
  · have hvr : v.toNat < R := by omega
    obtain ⟨b1, b2⟩ := hr v.toNat hvr
    have hF : mI M (g + 13) v.toNat ≠ 0 → F := fun z => hvn.elim (fun y => y.2.2.elim (fun x => x) (fun x => absurd x z)) (fun y => y.1)
    rw [show ((v.toNat : Nat) : Int) = v by first | rfl | omega] at b1 b2
    refine ⟨gp.1, g13.1, by rw [g13.2]; omega, fun z => ⟨g16.1, by rw [g16.2]; omega, g17.1, by rw [g17.2]; omega, w.1.1, (s_MM_push (hO _ _).2 (hO _ _).2 hO w hV hb).mono (fun M' t => ⟨t.1, t.1, b1 z, t.2⟩)⟩, fun z => absurd (hF z) hF9⟩
  · exact absurd (hvn.elim (fun y => absurd y.2.1 (by omega)) (fun y => y.1)) hF9
theorem x_bg_leaf {t : Int} (hF9 : ¬ F) (h : Ev F M a g R W T) (hn : n < T) (hs : so M g n = 1 ∨ so M g n = 2 ∨ so M g n = 12 ∨ so M g n = 13) (h2 : so M g n = 2 → 0 ≤ va M g n ∧ va M g n < 1000000000) (h1 : so M g n = 1 → nme F M g R W (va M g n)) (ht : tyn (tn M g) (so M g n) (va M g n) 0 (fun _ => 0) t) (hV : mI M a 23 = (V : Int)) (hb : V < 16400) (hl : ln M (a + 99) = (X : Int)) (hX : X ≤ 64000) : Cv G y_MM_begin (d + 3) [vr a, vr g, vi n] M (fun M' => mOk M' ∧ ∃ A B : Int, vok t A B ∧ psQ M a V A B M' ∧ vr9 t A B = (if so M g n = 1 then vr9 t (mL M (g + 16) (va M g n).toNat) (mL M (g + 17) (va M g n).toNat) else if so M g n = 2 then (0, va M g n, 1) else if so M g n = 12 then (0, 1, 1) else (0, 0, 1))) := by
  obtain ⟨hO, w, -⟩ := id h
  unfold tyn at ht
  refine s_bg h hn (fun q => ?_) (fun q => ?_) (fun q => ?_) (fun q => by omega) (fun q => by omega)
  · rw [if_pos q] at ht
    refine (x_MM_name (d := d) hF9 h (h1 q) hV hb hl hX).mono (fun M' t' => ⟨t'.1, t'.1, _, _, by rw [ht]; exact t'.2.1, t'.2.2, by rw [if_pos q]⟩)
  · rw [if_neg (by omega), if_pos q] at ht
    have := h2 q
    exact (s_MM_push ⟨by omega, by omega⟩ ⟨by omega, by omega⟩ hO w hV hb).mono (fun M' t' => ⟨t'.1, t'.1, _, _, Or.inl ⟨ht, by omega, by omega, by omega, by omega⟩, t'.2, by rw [if_neg (by omega), if_pos q]; unfold vr9; rw [ht]; rfl⟩)
  · rw [if_neg (by omega), if_neg (by omega), if_pos q] at ht
    refine (s_MM_pushTruth (d := d + 1) ⟨by split <;> omega, by split <;> omega⟩ hO w hV hb).mono (fun M' t' => ⟨t'.1, t'.1, _, _, Or.inr ⟨ht, ?_, rfl⟩, t'.2, ?_⟩)
    · generalize (if so M g n = 12 then (1 : Int) else 0) = b
      by_cases z : b = 0
      · rw [if_pos z]; exact Or.inl rfl
      · rw [if_neg z]; exact Or.inr rfl
    · rw [if_neg (show ¬ so M g n = 1 by first | rfl | omega), if_neg (show ¬ so M g n = 2 by first | rfl | omega)]
      unfold vr9
      rw [ht]
      by_cases z : so M g n = 12
      · simp [z]
      · simp [z]
/-- the first part's value stays, or it is taken and another part is begun: which -/
def coX (M : mM) (a g V X n c2 : Nat) (M' : mM) : Prop := (so M g n ≠ 32 ∧ ¬ (so M g n = 29 ↔ mL M (a + 97) V = 1) ∧ M' = M) ∨ ∃ c : Int, ((c = c2 ∧ ((so M g n = 32 ∧ mL M (a + 97) V = 1) ∨ (so M g n ≠ 32 ∧ (so M g n = 29 ↔ mL M (a + 97) V = 1)))) ∨ (so M g n = 32 ∧ c = np M g c2 ∧ mL M (a + 97) V ≠ 1)) ∧ Mv (fun x => x = a + 99) (fun x => x = a) M a M' ∧ mI M' a 23 = (V : Int) ∧ (∀ i, i ≠ 23 → mI M' a i = mI M a i) ∧ ln M' (a + 99) = (X + 2 : Nat) ∧ (∀ j, j < X → nt M' (a + 99) j = nt M (a + 99) j) ∧ nt M' (a + 99) X = 0 ∧ nt M' (a + 99) (X + 1) = c
theorem x_MM_choose0 {c1 c2 : Nat} (h : Ev F M a g R W T) (hn : n < T) (h1 : fp M g n = (c1 : Int)) (h1T : c1 < T) (h2 : np M g c1 = (c2 : Int)) (h2T : c2 < T) (hV : mI M a 23 = (V + 1 : Nat)) (hb : V < 16400) (hl : ln M (a + 99) = (X : Int)) (hX : X ≤ 64000) : Cv G y_MM_choose0 (d + 2) [vr a, vr g, vi n] M (fun M' => mOk M' ∧ coX M a g V X n c2 M') := by
  obtain ⟨hO, w, hg, hd, hB, -, -⟩ := h
  have gp := w.gp hg
  have r0 : mR M g 0 = g + 1 := gp.2.1.1
  have r4 : mR M g 4 = g + 9 := gp.2.1.2.2.2.2.1
  have r5 : mR M g 5 = g + 11 := gp.2.1.2.2.2.2.2.1
  have r21 : mR M a 21 = a + 97 := w.1.2.2.2.2.1.2.2.2.2.2.2.1
  have n97 : mK M (a + 97) = 33 ∧ mN M (a + 97) = 16400 := w.1.2.2.2.2.2.2.2.1.1
  have i1 := tL_in (a := a) (q := g + 1) hg (tLk1 g)
  have i9 := tL_in (a := a) (q := g + 9) hg (tLk9 g)
  have i11 := tL_in (a := a) (q := g + 11) hg (tLk11 g)
  have l1 := hd (g + 1) (by first | exact tLk1 g | exact gLk1 g | omega)
  have l9 := hd (g + 9) (by first | exact tLk9 g | exact gLk9 g | omega)
  have l11 := hd (g + 11) (by first | exact tLk11 g | exact gLk11 g | omega)
  have rd : ∀ {p j : Nat} {Q : Int → mM → Prop}, p ∈ nums a → (j : Int) < ln M p → (∀ z, z = nt M p j → i32 z → Q z M) → Ci G y_MN_at (d + 1) [vr p, vi j] M Q := fun hp hk hQ => by
    refine (s_MN_at hO (w.nu hp) hk).mono (fun z M1 e1 => ?_)
    obtain ⟨e1, hz⟩ := e1
    subst e1
    exact hQ z hz (by rw [hz]; exact (hO _ _).1)
  -- the value is taken
  have go : ∀ (M2 : mM) (c : Int), i32 c → M2 = mUI M a 23 (V : Int) → ((c = c2 ∧ ((so M g n = 32 ∧ mL M (a + 97) V = 1) ∨ (so M g n ≠ 32 ∧ (so M g n = 29 ↔ mL M (a + 97) V = 1)))) ∨ (so M g n = 32 ∧ c = np M g c2 ∧ mL M (a + 97) V ≠ 1)) → Cv G y_MM_todo (d + 1) [vr a, vi 0, vi c] M2 (fun M' => mOk M' ∧ (mOk M' ∧ coX M a g V X n c2 M')) := fun M2 c hc e2 hcc => by
    obtain ⟨m2, f2⟩ := mv_fld (v := (V : Int)) ⟨by omega, by omega⟩ hO w e2
    have s2 := m2.lst (n99 (a := a)) (fun z => z)
    refine (s_MM_todo (d := d) ⟨by omega, by omega⟩ hc m2.1 m2.2.1 (by rw [s2.1]; exact hl) (by omega)).mono (fun M3 t => ?_)
    obtain ⟨o3, m3, l3, e3, x3, y3⟩ := t
    have f3 := (m3.fld m2.2.1 (fun q hq => by rw [hq]; exact n99) (fun z => z)).1
    have lt : ∀ {M5 : mM}, Wd M5 a → ∀ q, q = a + 99 → q < mZ M5 := fun w q hq => by rw [hq]; exact w.lt n99
    refine ⟨o3, o3, Or.inr ⟨c, hcc, (m2.mono (fun _ z => z.elim) (fun x hx => hx) (lt w)).trans (m3.mono (fun x hx => hx) (fun x hx => hx.elim) (lt m2.2.1)), by rw [f3, f2, if_pos rfl], fun i hi => by rw [f3, f2, if_neg hi], l3, fun j hj => by rw [e3 j hj, s2.2.1], x3, y3⟩⟩
  have eV : ((V + 1 : Nat) : Int) - 1 = (V : Int) := by omega
  refine k_MM_choose0 hO (i32s (by omega) (by omega)) ?_
  rw [r0]
  refine ⟨gp.1, (w.nu i1).1, rd i1 (by omega) (fun s hs is => ⟨is, hO, w.1.1, ?_⟩)⟩
  have hs' : s = so M g n := hs
  rw [r21, hV, r4, r5, eV]
  refine ⟨n97.1, by rw [n97.2]; omega, fun v10 h10 => ⟨gp.1, (w.nu i9).1, rd i9 (by omega) (fun x18 h18 i18 => ⟨i18, hO, (w.nu i11).1, ?_⟩)⟩⟩
  have cz := (cmpz (mL M (a + 97) (V : Int).toNat) 1).2.2.2.1
  rw [Int.toNat_natCast] at cz h10
  have t10 : v10 = 1 ↔ mL M (a + 97) V = 1 := by split at h10 <;> omega
  have t11 : v10 = 0 ∨ v10 = 1 := by split at h10 <;> omega
  have e18 : x18 = (c1 : Int) := h18.trans h1
  subst e18
  refine rd i11 (by omega) (fun x22 h22 i22 => ⟨i22, hO, fun q => ⟨w.1.1, ?_⟩, fun q v54 h54 => ⟨fun q9 => ⟨w.1.1, ?_⟩, fun q9 => ⟨hO, Or.inl ⟨by rw [← hs']; exact q, by rw [← hs']; split at h54 <;> omega, rfl⟩⟩⟩⟩)
  · have e22 : x22 = (c2 : Int) := h22.trans h2
    subst e22
    rw [hV, eV]
    refine ⟨⟨by omega, by omega⟩, fun M2 e2 => ⟨fun q0 => ?_, fun q0 => go M2 _ i22 e2 (Or.inl ⟨rfl, Or.inl ⟨by rw [← hs']; exact q, by omega⟩⟩)⟩⟩
    obtain ⟨m2, f2⟩ := mv_fld (v := (V : Int)) ⟨by omega, by omega⟩ hO w e2
    have w2 := m2.2.1
    have gp2 := w2.gp hg
    have s11 := m2.lst i11 (fun z => z)
    rw [show mR M2 g 5 = g + 11 from gp2.2.1.2.2.2.2.2.1]
    refine ⟨gp2.1, (w2.nu i11).1, (s_MN_at m2.1 (w2.nu i11) (by rw [s11.1]; omega)).mono (fun z M3 e3 => ?_)⟩
    obtain ⟨e3, hz⟩ := e3
    subst e3
    have iz : i32 z := by rw [hz]; exact (m2.1 _ _).1
    exact ⟨iz, m2.1, w2.1.1, go M3 z iz e2 (Or.inr ⟨by rw [← hs']; exact q, by rw [hz, s11.2.1], by omega⟩)⟩
  · have e22 : x22 = (c2 : Int) := h22.trans h2
    subst e22
    rw [hV, eV]
    exact ⟨⟨by omega, by omega⟩, fun M2 e2 => go M2 _ i22 e2 (Or.inl ⟨rfl, Or.inr ⟨by rw [← hs']; exact q, by rw [← hs']; split at h54 <;> omega⟩⟩)⟩
end FNX
end
section
/-! What the parts of a node are worth. -/
section PTV
variable {w pl nv S A V F B : Nat → Int} {cv : Nat → vrs}
noncomputable abbrev vlr (w : Nat → Int) (cv : Nat → vrs) (pl : Nat → Int) (r : Nat × Nat) : vrs := vlq w cv pl 0 0 r.1 r.2
/-- the first of some rules that has a fault; (0, 0, 1): none -/
noncomputable def vft (w : Nat → Int) (cv : Nat → vrs) (pl : Nat → Int) : List (Nat × Nat) → vrs
  | [] => (0, 0, 1)
  | r :: rs => if (vlr w cv pl r).1 = 0 then vft w cv pl rs else vlr w cv pl r
/-- all of them, one after another, and then f -/
noncomputable def vsq (w : Nat → Int) (cv : Nat → vrs) (pl : Nat → Int) (rs : List (Nat × Nat)) (f : (Nat → vrs) → vrs) : vrs := if (vft w cv pl rs).1 = 0 then f (fun j => vlr w cv pl (rs.getD j (0, 0))) else vft w cv pl rs
theorem vft_app : ∀ (rs rs' : List (Nat × Nat)), vft w cv pl (rs ++ rs') = if (vft w cv pl rs).1 = 0 then vft w cv pl rs' else vft w cv pl rs
  | [], rs' => by show _ = if (0 : Int) = 0 then _ else _; rw [if_pos rfl]; rfl
  | r :: rs, rs' => by
    show (if (vlr w cv pl r).1 = 0 then vft w cv pl (rs ++ rs') else vlr w cv pl r) = if (if (vlr w cv pl r).1 = 0 then vft w cv pl rs else vlr w cv pl r).1 = 0 then vft w cv pl rs' else if (vlr w cv pl r).1 = 0 then vft w cv pl rs else vlr w cv pl r
    rw [vft_app rs rs']
    by_cases c : (vlr w cv pl r).1 = 0
    · rw [if_pos c, if_pos c]
    · rw [if_neg c, if_neg c, if_neg c]
theorem vr_eta {v : vrs} (h : v.1 = 0) : v = (0, v.2.1, v.2.2) := by rw [← h]
theorem vft_1 {r : Nat × Nat} : vft w cv pl [r] = if (vlr w cv pl r).1 = 0 then (0, 0, 1) else vlr w cv pl r := rfl
theorem bsq_0 {x : Int} {A B : Nat → Int} {k : Nat} : ∀ n, (bsq x A B k n).1 = 0
  | 0 => rfl
  | n + 1 => by
    rw [bsq]
    unfold vbs
    split <;> split <;> rfl
theorem tv_list {y : Int} : ∀ (f c i j : Nat), 2 * (j - i) + c ≤ f → Eoc w c i j → c = 1 → ∀ (x : Int) (n e : Nat), Td w pl nv S A V F B c x i j n e → ∃ rs : List (Nat × Nat), rs ≠ [] ∧ (∀ r, r ∈ rs → Eo w 6 r.1 r.2) ∧ Tbq w pl nv S A V F B x rs n e ∧ vlq w cv pl 1 y i j = vsq w cv pl rs (fun u => bsq y (fun j => (u j).2.1) (fun j => (u j).2.2) 0 (rs.length - 1)) := by
  refine Eo_ind (P := fun c i j => c = 1 → ∀ (x : Int) (n e : Nat), Td w pl nv S A V F B c x i j n e → ∃ rs : List (Nat × Nat), rs ≠ [] ∧ (∀ r, r ∈ rs → Eo w 6 r.1 r.2) ∧ Tbq w pl nv S A V F B x rs n e ∧ vlq w cv pl 1 y i j = vsq w cv pl rs (fun u => bsq y (fun j => (u j).2.1) (fun j => (u j).2.2) 0 (rs.length - 1))) ?_ ?_ ?_ ?_ ?_ ?_ ?_ ?_
  · intros; omega
  · intros; omega
  · intros; omega
  · intros; omega
  · intros; omega
  · intros; omega
  · intro i j h1 h2 he i1 _ x n e ht
    rw [Td_l1 h1 h2] at ht
    refine ⟨[(i, j)], by simp, fun r hr => by rw [List.mem_singleton.1 hr]; exact he, ht, ?_⟩
    rw [vl_l1 h1 h2]
    unfold vsq
    rw [vft_1]
    by_cases c : (vlr w cv pl (i, j)).1 = 0
    · rw [if_pos c, if_pos rfl]
      exact vr_eta c
    · rw [if_neg c, if_neg c]
  · intro i m j h1 h2 h3 h4 h5 o1 o2 i1 i2 _ x n e ht
    rw [Td_ln h1 h4 h2] at ht
    obtain ⟨k, t1, t2, b1⟩ := ht
    obtain ⟨rs, r1, r2, r3, r4⟩ := i1 rfl _ _ _ t1
    refine ⟨rs ++ [(m + 1, j)], by simp, fun r hr => ?_, r3.app rs t2 b1, ?_⟩
    · rcases List.mem_append.1 hr with q | q
      · exact r2 r q
      · rw [List.mem_singleton.1 q]; exact o2
    · rw [vl_ln h1 h4 h2, r4]
      have l1 : 1 ≤ rs.length := by
        cases rs with
        | nil => exact absurd rfl r1
        | cons r rs => simp
      have gl : ∀ t, t < rs.length → (rs ++ [(m + 1, j)]).getD t (0, 0) = rs.getD t (0, 0) := fun t h => by
        rw [List.getD_eq_getElem?_getD, List.getD_eq_getElem?_getD, List.getElem?_append_left h]
      have gr : (rs ++ [(m + 1, j)]).getD rs.length (0, 0) = (m + 1, j) := by
        rw [List.getD_eq_getElem?_getD, List.getElem?_append_right (Nat.le_refl _), Nat.sub_self]
        rfl
      unfold vsq
      rw [vft_app, vft_1]
      by_cases c : (vft w cv pl rs).1 = 0
      · rw [if_pos c, if_pos c]
        rw [vbd, if_pos (bsq_0 _)]
        show vbd (vlr w cv pl (m + 1, j)) _ = _
        by_cases c2 : (vlr w cv pl (m + 1, j)).1 = 0
        · rw [if_pos c2, if_pos rfl, vbd, if_pos c2]
          have e1 : (rs ++ [(m + 1, j)]).length - 1 = (rs.length - 1) + 1 := by simp; omega
          show vbs y _ _ _ _ = bsq y _ _ 0 ((rs ++ [(m + 1, j)]).length - 1)
          rw [e1, bsq]
          have e2 : 0 + (rs.length - 1) + 1 = rs.length := by omega
          rw [e2]
          simp only [gr]
          have e3 : bsq y (fun j' => (vlr w cv pl ((rs ++ [(m + 1, j)]).getD j' (0, 0))).2.1) (fun j' => (vlr w cv pl ((rs ++ [(m + 1, j)]).getD j' (0, 0))).2.2) 0 (rs.length - 1) = bsq y (fun j' => (vlr w cv pl (rs.getD j' (0, 0))).2.1) (fun j' => (vlr w cv pl (rs.getD j' (0, 0))).2.2) 0 (rs.length - 1) := bsq_cg _ (fun j' hj => by
            show (vlr w cv pl ((rs ++ [(m + 1, j)]).getD (0 + j') (0, 0))).2.1 = (vlr w cv pl (rs.getD (0 + j') (0, 0))).2.1 ∧ _
            rw [gl (0 + j') (by omega)]
            exact ⟨rfl, rfl⟩)
          rw [e3]
        · rw [if_neg c2, if_neg c2, vbd, if_neg c2]
      · rw [if_neg c, if_neg c, if_neg c, vbd, if_neg c]
/-- a leaf, or a node with parts: what it is worth -/
theorem tv_node : ∀ (f c i j : Nat), 2 * (j - i) + c ≤ f → Eoc w c i j → c = 0 → ∀ (x x' : Int) (n e : Nat), Td w pl nv S A V F B c x i j n e →
    (F n = -1 ∧ e = n + 1 ∧ ∃ k, (w k = 1 ∨ w k = 2 ∨ w k = 12 ∨ w k = 13) ∧ S n = w k ∧ V n = nv k ∧ vlq w cv pl 0 x' i j = cv k)
    ∨ (F n = ((n + 1 : Nat) : Int) ∧ ∃ rs : List (Nat × Nat), rs ≠ [] ∧ (∀ r, r ∈ rs → Eo w 6 r.1 r.2) ∧ Tbq w pl nv S A V F B (-1) rs (n + 1) e ∧ (S n ≠ 1 ∧ S n ≠ 2 ∧ S n ≠ 12 ∧ S n ≠ 13) ∧ (((S n ≠ 29 ∧ S n ≠ 30 ∧ S n ≠ 32) ∧ vlq w cv pl 0 x' i j = vsq w cv pl rs (fnv (S n) (A n) rs.length)) ∨ ((S n = 29 ∨ S n = 30) ∧ ∃ r1 r2, rs = [r1, r2] ∧ vlq w cv pl 0 x' i j = vbd (vlr w cv pl r1) (fun a b => if S n = 29 ↔ a = 0 then (0, a, b) else vlr w cv pl r2)) ∨ (S n = 32 ∧ ∃ r1 r2 r3, rs = [r1, r2, r3] ∧ vlq w cv pl 0 x' i j = vbd (vlr w cv pl r1) (fun a _ => if a = 0 then vlr w cv pl r3 else vlr w cv pl r2)))) := by
  refine Eo_ind (P := fun c i j => c = 0 → ∀ (x x' : Int) (n e : Nat), Td w pl nv S A V F B c x i j n e → (F n = -1 ∧ e = n + 1 ∧ ∃ k, (w k = 1 ∨ w k = 2 ∨ w k = 12 ∨ w k = 13) ∧ S n = w k ∧ V n = nv k ∧ vlq w cv pl 0 x' i j = cv k) ∨ (F n = ((n + 1 : Nat) : Int) ∧ ∃ rs : List (Nat × Nat), rs ≠ [] ∧ (∀ r, r ∈ rs → Eo w 6 r.1 r.2) ∧ Tbq w pl nv S A V F B (-1) rs (n + 1) e ∧ (S n ≠ 1 ∧ S n ≠ 2 ∧ S n ≠ 12 ∧ S n ≠ 13) ∧ (((S n ≠ 29 ∧ S n ≠ 30 ∧ S n ≠ 32) ∧ vlq w cv pl 0 x' i j = vsq w cv pl rs (fnv (S n) (A n) rs.length)) ∨ ((S n = 29 ∨ S n = 30) ∧ ∃ r1 r2, rs = [r1, r2] ∧ vlq w cv pl 0 x' i j = vbd (vlr w cv pl r1) (fun a b => if S n = 29 ↔ a = 0 then (0, a, b) else vlr w cv pl r2)) ∨ (S n = 32 ∧ ∃ r1 r2 r3, rs = [r1, r2, r3] ∧ vlq w cv pl 0 x' i j = vbd (vlr w cv pl r1) (fun a _ => if a = 0 then vlr w cv pl r3 else vlr w cv pl r2))))) ?_ ?_ ?_ ?_ ?_ ?_ ?_ ?_
  · intro i m q j h1 h2 h3 h4 h5 h6 h7 h8 o1 o2 o3 _ _ _ _ x x' n e ht
    rw [Td_ask h1 h2 h3 h6 h8] at ht
    obtain ⟨a, b, ⟨s1, s2, s3⟩, t1, b1, t2, b2, t3, b3⟩ := ht
    refine Or.inr ⟨s3, [(i, m), (m + 1, q), (q + 1, j)], by simp, fun r hr => ?_, ⟨a, t1, b1, b, t2, b2, t3, b3⟩, by omega, Or.inr (Or.inr ⟨by rw [s1]; exact h6, _, _, _, rfl, vl_ask h1 h2 h3 h6 h8⟩)⟩
    simp at hr
    rcases hr with hr | hr | hr <;> subst hr
    · exact o1
    · exact o2
    · exact o3
  · intro i m j h1 h2 h3 h4 o1 o2 _ _ _ x x' n e ht
    rw [Td_bin h1 h2 h3 (by omega)] at ht
    obtain ⟨a, ⟨s1, s2, s3⟩, t1, b1, t2, b2⟩ := ht
    refine Or.inr ⟨s3, [(i, m), (m + 1, j)], by simp, fun r hr => ?_, ⟨a, t1, b1, t2, b2⟩, by omega, ?_⟩
    · simp at hr
      rcases hr with hr | hr <;> subst hr
      · exact o1
      · exact o2
    · by_cases c29 : w m = 29
      · refine Or.inr (Or.inl ⟨by omega, _, _, rfl, ?_⟩)
        rw [vl_and h1 h2 h3 c29]
        congr 1
        funext a b
        have : S n = 29 := by omega
        simp [this]
      · by_cases c30 : w m = 30
        · refine Or.inr (Or.inl ⟨by omega, _, _, rfl, ?_⟩)
          rw [vl_or h1 h2 h3 c30]
          congr 1
          funext a b
          have : ¬ S n = 29 := by omega
          by_cases a0 : a = 0 <;> simp [this, a0]
        · refine Or.inl ⟨by omega, ?_⟩
          rw [vl_bin h1 h2 h3 (by omega) c29 c30]
          unfold vsq
          show _ = if (if (vlr w cv pl (i, m)).1 = 0 then (if (vlr w cv pl (m + 1, j)).1 = 0 then ((0, 0, 1) : vrs) else vlr w cv pl (m + 1, j)) else vlr w cv pl (i, m)).1 = 0 then _ else (if (vlr w cv pl (i, m)).1 = 0 then (if (vlr w cv pl (m + 1, j)).1 = 0 then ((0, 0, 1) : vrs) else vlr w cv pl (m + 1, j)) else vlr w cv pl (i, m))
          by_cases c1 : (vlr w cv pl (i, m)).1 = 0
          · rw [vbd, if_pos c1, if_pos c1]
            by_cases c2 : (vlr w cv pl (m + 1, j)).1 = 0
            · rw [vbd, if_pos c2, if_pos c2, if_pos rfl]
              unfold fnv
              rw [if_neg (by omega), if_neg (by omega), if_neg (by omega), s1, s2]
              rfl
            · rw [vbd, if_neg c2, if_neg c2, if_neg c2]
          · rw [vbd, if_neg c1, if_neg c1, if_neg c1]
  · intro i j h1 h2 h3 _ _ i1 _ x x' n e ht
    rw [Td_par h1 h2 h3] at ht
    rw [vl_par h1 h2 h3]
    exact i1 rfl _ 0 _ _ ht
  · intro i j h1 h2 h3 o1 _ _ x x' n e ht
    rw [Td_pre h1 h2 h3] at ht
    obtain ⟨⟨s1, s2, s3⟩, t1, b1⟩ := ht
    have s4 : S n = 45 ∨ S n = 31 := by rw [s1]; split <;> simp
    refine Or.inr ⟨s3, [(i + 1, j)], by simp, fun r hr => by rw [List.mem_singleton.1 hr]; exact o1, ⟨t1, b1⟩, by omega, Or.inl ⟨by omega, ?_⟩⟩
    unfold vsq
    rw [vft_1]
    rcases h3 with h3 | h3
    · rw [if_pos h3] at s1
      rw [vl_neg h1 h2 h3]
      by_cases c1 : (vlr w cv pl (i + 1, j)).1 = 0
      · rw [vbd, if_pos c1, if_pos c1, if_pos rfl]
        unfold fnv
        rw [if_neg (by omega), if_pos s1]
        rfl
      · rw [vbd, if_neg c1, if_neg c1, if_neg c1]
    · rw [if_neg (by omega)] at s1
      rw [vl_not h1 h2 h3]
      by_cases c1 : (vlr w cv pl (i + 1, j)).1 = 0
      · rw [vbd, if_pos c1, if_pos c1, if_pos rfl]
        unfold fnv
        rw [if_pos s1]
        rfl
      · rw [vbd, if_neg c1, if_neg c1, if_neg c1]
  · intro i h1 h3 _ x x' n e ht
    rw [Td_leaf h1 (by omega) h3] at ht
    obtain ⟨rfl, s1, s2, s3, s4⟩ := ht
    exact Or.inl ⟨s3, rfl, i, h3, s1, s4, vl_leaf h1 (by omega) h3⟩
  · intro i j h1 h2 h3 _ o7 _ _ x x' n e ht
    rw [Td_lst h1 h2 h3] at ht
    obtain ⟨⟨s1, s2, s3⟩, t1⟩ := ht
    obtain ⟨rs, r1, r2, r3, r4⟩ := tv_list (cv := cv) (y := w i) _ 1 (i + 2) (j - 1) (Nat.le_refl _) (Or.inr ⟨rfl, o7⟩) rfl _ _ _ t1
    refine Or.inr ⟨s3, rs, r1, r2, r3, by omega, Or.inl ⟨by omega, ?_⟩⟩
    rw [vl_lst h1 h2 h3, r4]
    unfold vsq fnv
    rw [if_neg (show ¬ S n = 31 by first | rfl | omega), if_neg (show ¬ S n = 45 by first | rfl | omega), if_pos (show S n = 14 ∨ S n = 15 by first | rfl | omega), s1]
  · intros; omega
  · intros; omega
end PTV
end
section
/-! The reference's workOut, exactly: rules of consts. -/
theorem sbV {V e T n m : Nat} (h : V + e + m ≤ T + n) : V + e ≤ T + (n - m) := by omega
theorem sbL {L e T n m : Nat} (h : L + 2 * e + 2 * m ≤ 2 * T + 2 * n) (hn : n ≤ e) : L + 2 * (e - n) ≤ 2 * (T - m) := by omega
theorem vbS {V e T n m : Nat} (h : V + e ≤ T + (n - m)) (hn : m ≤ n) : V + e + m ≤ T + n := by omega
theorem lbS {L e T n m : Nat} (h : L + 2 * (e - n) ≤ 2 * (T - m)) (hn : n < e) : L + 2 * e + 2 * m ≤ 2 * T + 2 * n := by omega
section WRX
variable {G : mG} {F : Prop} {d a g R W T : Nat} {M : mM} {Q : mM → Prop} {nv : Nat → Int}
/-- what a word is worth: nv tells numbers and how names are resolved -/
def cvq (M : mM) (a g : Nat) (nv : Nat → Int) (k : Nat) : vrs := if wk M a k = 1 then vr9 (tn M g (nv k)) (mL M (g + 16) (nv k).toNat) (mL M (g + 17) (nv k).toNat) else if wk M a k = 2 then (0, nv k, 1) else if wk M a k = 12 then (0, 1, 1) else (0, 0, 1)
noncomputable abbrev vlM (M : mM) (a g : Nat) (nv : Nat → Int) (r : Nat × Nat) : vrs := vlr (wk M a) (cvq M a g nv) (nt M (a + 7)) r
noncomputable abbrev vfM (M : mM) (a g : Nat) (nv : Nat → Int) (rs : List (Nat × Nat)) : vrs := vft (wk M a) (cvq M a g nv) (nt M (a + 7)) rs
/-- what the trees stand for: intervals of words -/
def TBv (M : mM) (a g : Nat) (nv : Nat → Int) (md : Nat) (rs : List (Nat × Nat)) (n e : Nat) : Prop := (∀ r, r ∈ rs → Eo (wk M a) 6 r.1 r.2) ∧ if md = 0 then ∃ i j, rs = [(i, j)] ∧ Td (wk M a) (nt M (a + 7)) nv (so M g) (pm M g) (va M g) (fp M g) (np M g) 0 0 i j n e else rs.length = md ∧ Tbq (wk M a) (nt M (a + 7)) nv (so M g) (pm M g) (va M g) (fp M g) (np M g) (-1) rs n e
theorem tb_len2 {nm : Int → Prop} {w pl nv S A V F : Nat → Int} : ∀ {rs : List (Nat × Nat)} {k f n e : Nat}, Tbq w pl nv S A V F (np M g) (-1) rs n e → Tn nm M g f k n e → 1 ≤ k → rs.length = k
  | [], _, _, _, _, h1, _, _ => h1.elim
  | [r], k, f, n, e, h1, h2, hk => by
    cases f with
    | zero => exact h2.elim
    | succ f =>
      rw [Tn, if_neg (by omega)] at h2
      by_cases c1 : k = 1
      · rw [c1]; rfl
      · rw [if_neg c1] at h2
        obtain ⟨m, q1, -⟩ := h2
        have := h1.2
        omega
  | r :: r2 :: rs, k, f, n, e, h1, h2, hk => by
    obtain ⟨m', t1, t2, t3⟩ := h1
    cases f with
    | zero => exact h2.elim
    | succ f =>
      rw [Tn, if_neg (by omega)] at h2
      by_cases c1 : k = 1
      · rw [if_pos c1] at h2
        have := h2.1
        omega
      · rw [if_neg c1] at h2
        obtain ⟨m, q1, -, q3⟩ := h2
        have em : m = m' := by omega
        subst em
        have := tb_len2 t3 q3 (by omega)
        simp only [List.length_cons] at this ⊢
        omega
/-- the values are what the rules are worth -/
def woV (M : mM) (a g V : Nat) (nv : Nat → Int) (rs : List (Nat × Nat)) (u : Nat → Int) (M3 : mM) : Prop := (vfM M a g nv rs).1 = 0 ∧ ∀ j, j < rs.length → vlM M a g nv (rs.getD j (0, 0)) = vr9 (u j) (mL M3 (a + 97) (V + j)) (mL M3 (a + 98) (V + j))
def fvq (M3 : mM) (a : Nat) (v : vrs) : Prop := v.1 ≠ 0 ∧ mI M3 a 16 = v.1 ∧ mI M3 a 17 = v.2.1
theorem EO.pm {F : Prop} {M3 : mM} (h : EO F M a g R W T M3) (n : Nat) : pm M3 g n = pm M g n := by
  have hg := h.2.1.2.2.1
  exact (h.1.lst (tL_in (q := g + 3) hg (tLk3 g)) (by omega)).2.1 n
/-- a node's value depends on its parts' values alone -/
theorem fnv_cg {s p : Int} {k : Nat} {u v : Nat → vrs} (hk : 1 ≤ k) (ha : ari s k) (h : ∀ t, t < k → u t = v t) : fnv s p k u = fnv s p k v := by
  have h0 := h 0 (by omega)
  unfold fnv
  rw [h0]
  by_cases c1 : s = 31
  · rw [if_pos c1, if_pos c1]
  rw [if_neg c1, if_neg c1]
  by_cases c2 : s = 45
  · rw [if_pos c2, if_pos c2]
  rw [if_neg c2, if_neg c2]
  by_cases c3 : s = 14 ∨ s = 15
  · rw [if_pos c3, if_pos c3]
    exact bsq_cg _ (fun j hj => by
      show (u (0 + j)).2.1 = (v (0 + j)).2.1 ∧ (u (0 + j)).2.2 = (v (0 + j)).2.2
      rw [h (0 + j) (by omega)]
      exact ⟨rfl, rfl⟩)
  · rw [if_neg c3, if_neg c3, h 1 (by unfold ari at ha; omega)]
theorem x_wo_run {b : Nat} (hF9 : ¬ F) (h0 : Ev F M a g R W T) (hbR : b ≤ R) : ∀ (f md n e n0 e0 Lk V kk : Nat) (u : Nat → Int) (M2 : mM) (rs : List (Nat × Nat)), kk = md + (1 - md) → Ty (nme F M g b W) (tn M g) M g f md n e u → TBv M a g nv md rs n e → n0 ≤ n → e ≤ e0 → e0 ≤ T → EO F M a g R W T M2 → mI M2 a 16 = 0 → ln M2 (a + 99) = (Lk + 2 * kk : Nat) → (∀ j, j < kk → nt M2 (a + 99) (Lk + 2 * (kk - 1 - j)) = 0 ∧ nt M2 (a + 99) (Lk + 2 * (kk - 1 - j) + 1) = ci M g n j) → mI M2 a 23 = (V : Int) → V + e0 ≤ T + (n - n0) → Lk + 2 * (e - n) ≤ 2 * (T - n0) → (∀ M3, EO F M a g R W T M3 → fvq M3 a (vfM M a g nv rs) → Q M3) → (∀ M3, woR F M a g R W T Lk V kk u M2 M3 → woV M a g V nv rs u M3 → h_MM_workOut_19 G (d + 3) a g M3 Q) → h_MM_workOut_19 G (d + 3) a g M2 Q := by
  have w0 := h0.2.1
  have hBd := h0.2.2.2.2.1
  intro f
  induction f using Nat.strongRecOn with
  | _ f ih =>
  intro md n e n0 e0 Lk V kk u M2 rs hkk ht htb hn0 he he0 h h16 lk pk hV hVb hLb hX hQ
  obtain ⟨hrs, htb⟩ := htb
  have hlt := ht.tn.lt
  have hVs := vbS hVb hn0
  have hLs := lbS hLb hlt
  have hVh : Hid (V + e0 ≤ T + (n - n0)) := hVb
  have hLh : Hid (Lk + 2 * (e - n) ≤ 2 * (T - n0)) := hLb
  clear hVb hLb
  cases f with
  | zero => exact ht.elim
  | succ f =>
    rw [Ty] at ht
    by_cases c0 : md = 0
    · subst c0
      have kk1 : kk = 1 := by omega
      subst kk1
      rw [if_pos rfl] at ht
      obtain ⟨p0, p1⟩ := pk 0 (by omega)
      rw [show Lk + 2 * (1 - 1 - 0) = Lk by first | rfl | omega] at p0 p1
      have pn : nt M2 (a + 99) (Lk + 1) = (n : Int) := p1
      obtain ⟨-, -, ht⟩ := ht
      rw [if_pos rfl] at htb
      obtain ⟨i, j, rfl, tm⟩ := htb
      have eo : Eo (wk M a) 6 i j := hrs (i, j) (List.mem_singleton.2 rfl)
      have tn9 := fun (_ : Unit) => tv_node (cv := cvq M a g nv) _ 0 i j (Nat.le_refl _) (Or.inl ⟨rfl, eo⟩) rfl _ 0 _ _ tm
      have vf1 : vfM M a g nv [(i, j)] = if (vlM M a g nv (i, j)).1 = 0 then (0, 0, 1) else vlM M a g nv (i, j) := rfl
      have w1 : ∀ {M3 : mM} {A B : Int}, vlM M a g nv (i, j) = vr9 (u 0) A B → mL M3 (a + 97) (V + 0) = A → mL M3 (a + 98) (V + 0) = B → woV M a g V nv [(i, j)] u M3 := fun {M3 A B} e1 e2 e3 => by
        refine ⟨by rw [vf1, e1]; rfl, fun t ht => ?_⟩
        have t0 : t = 0 := by simp at ht; omega
        subst t0
        rw [e2, e3]
        exact e1
      have w1x : ∀ {M3 : mM}, EO F M a g R W T M3 → (vlM M a g nv (i, j)).1 ≠ 0 → mI M3 a 16 = (vlM M a g nv (i, j)).1 → mI M3 a 17 = (vlM M a g nv (i, j)).2.1 → Q M3 := fun {M3} l3 z1 z2 z3 => hX M3 l3 (by rw [vf1, if_neg z1]; exact ⟨z1, z2, z3⟩)
      rcases ht with ⟨b1, b2, b3, b4, b5, b6⟩ | ⟨k, c, b1, b2, b3, b4, b5⟩
      · -- a leaf
        refine s_wo2 (n := n) (X := Lk) (s := 0) h h16 lk (Or.inl rfl) p0 pn (fun _ M4 t4 => ?_) (fun z => absurd z (by decide)) (fun z => absurd z (by decide)) (fun z => absurd z (by decide))
        obtain ⟨m4, l4, e4⟩ := t4
        have E4 := h.pile m4
        have K4 := kp99 h.1.2.1 m4
        have nd4 := E4.nod n
        have gs4 := E4.gs w0
        obtain ⟨-, -, kw, kl, ks, kv, kx⟩ : fp M g n = -1 ∧ e = n + 1 ∧ ∃ k, (wk M a k = 1 ∨ wk M a k = 2 ∨ wk M a k = 12 ∨ wk M a k = 13) ∧ so M g n = wk M a k ∧ va M g n = nv k ∧ vlq (wk M a) (cvq M a g nv) (nt M (a + 7)) 0 0 i j = cvq M a g nv k := by
          rcases tn9 () with q | ⟨q, -⟩
          · exact q
          · rw [b2] at q; omega
        refine (x_bg_leaf (t := u 0) (V := V) (X := Lk) hF9 E4.2.1 (by omega) (by rw [nd4.1]; exact b3) (by rw [nd4.1, nd4.2.1]; exact b4) (by rw [nd4.1, nd4.2.1]; exact fun z => ((b5 z).up hbR).gs gs4) (by rw [nd4.1, nd4.2.1, gs4.tyn]; exact b6) (by rw [K4.1]; exact hV) (by omega) l4 (by omega)).mono (fun M5 t5 => ⟨t5.1, ?_⟩)
        obtain ⟨-, A, B, v1, v2, v3⟩ := t5
        rw [nd4.1, nd4.2.1, gs4.2.2.2.2.1, gs4.2.2.2.2.2.1] at v3
        obtain ⟨y1, y2, y3, y4, y5⟩ := v2
        have E5 := E4.step y1 (fun _ z => z.elim) (fun x hx => hx) (fun i _ _ i3 => y3 i i3)
        have s5 := y1.lst (n99 (a := a)) (fun z => z)
        refine hQ M5 ⟨E5, by rw [y3 16 (by omega), K4.1]; exact h16, by rw [s5.1]; exact l4, fun j hj => by rw [s5.2.1, e4], y2, fun j hj => ⟨by rw [y4, if_neg (by omega), K4.2.1], by rw [y5, if_neg (by omega), K4.2.2]⟩, fun j hj => ?_⟩ (w1 (A := A) (B := B) ?_ (by rw [y4, if_pos (by omega)]) (by rw [y5, if_pos (by omega)]))
        · have j0 : j = 0 := by omega
          subst j0
          rw [y4, y5, if_pos (by omega), if_pos (by omega)]
          exact v1
        · show vlq (wk M a) (cvq M a g nv) (nt M (a + 7)) 0 0 i j = _
          rw [kx, v3]
          unfold cvq
          rw [← ks, ← kv]
          by_cases z1 : so M g n = 1
          · rw [if_pos z1, if_pos z1]
            unfold tyn at b6
            rw [if_pos z1] at b6
            rw [b6]
          · rw [if_neg z1, if_neg z1]
      · -- a node with parts
        have hge := b4.tn.ge
        have nl : ¬ (so M g n = 1 ∨ so M g n = 2 ∨ so M g n = 12 ∨ so M g n = 13) := fun z => by unfold ari at b2; omega
        have hty : tyr (so M g n) k c (u 0) := by
          unfold tyn at b5
          rw [if_neg (by omega), if_neg (by omega), if_neg (by omega)] at b5
          exact b5
        obtain ⟨-, rs2, r1, r2, r3, r4, r5⟩ : fp M g n = ((n + 1 : Nat) : Int) ∧ ∃ rs : List (Nat × Nat), rs ≠ [] ∧ (∀ r, r ∈ rs → Eo (wk M a) 6 r.1 r.2) ∧ Tbq (wk M a) (nt M (a + 7)) nv (so M g) (pm M g) (va M g) (fp M g) (np M g) (-1) rs (n + 1) e ∧ (so M g n ≠ 1 ∧ so M g n ≠ 2 ∧ so M g n ≠ 12 ∧ so M g n ≠ 13) ∧ (((so M g n ≠ 29 ∧ so M g n ≠ 30 ∧ so M g n ≠ 32) ∧ vlM M a g nv (i, j) = vsq (wk M a) (cvq M a g nv) (nt M (a + 7)) rs (fnv (so M g n) (pm M g n) rs.length)) ∨ ((so M g n = 29 ∨ so M g n = 30) ∧ ∃ r1 r2, rs = [r1, r2] ∧ vlM M a g nv (i, j) = vbd (vlM M a g nv r1) (fun x y => if so M g n = 29 ↔ x = 0 then (0, x, y) else vlM M a g nv r2)) ∨ (so M g n = 32 ∧ ∃ r1 r2 r3, rs = [r1, r2, r3] ∧ vlM M a g nv (i, j) = vbd (vlM M a g nv r1) (fun x _ => if x = 0 then vlM M a g nv r3 else vlM M a g nv r2))) := by
          rcases tn9 () with ⟨q, -⟩ | q
          · rw [b3] at q; omega
          · exact q
        have rk : rs2.length = k := tb_len2 r3 b4.tn b1
        by_cases cs : so M g n = 29 ∨ so M g n = 30 ∨ so M g n = 32
        · -- and, or, ask
          have k2 : 2 ≤ k := by unfold ari at b2; omega
          cases f with
          | zero => exact b4.elim
          | succ f1 =>
            have b4' := b4
            rw [Ty, if_neg (by omega), if_neg (by omega)] at b4'
            obtain ⟨m, q1, q2, q3⟩ := b4'
            have l1 := q2.tn.lt
            have l3 := q3.tn.ge
            -- the first part and the rest
            obtain ⟨ra, rt, rfl⟩ : ∃ ra rt, rs2 = ra :: rt := by
              cases rs2 with
              | nil => exact absurd rfl r1
              | cons r rs => exact ⟨r, rs, rfl⟩
            have lrt : rt.length = k - 1 := by simp only [List.length_cons] at rk; omega
            obtain ⟨rb, rt2, rfl⟩ : ∃ rb rt2, rt = rb :: rt2 := by
              cases rt with
              | nil => simp at lrt; omega
              | cons r rs => exact ⟨r, rs, rfl⟩
            obtain ⟨m', tb1, tb2, tb3⟩ := r3
            have em : m' = m := by omega
            subst em
            have eoa : Eo (wk M a) 6 ra.1 ra.2 := r2 ra (List.mem_cons_self ..)
            have vfa : vfM M a g nv [ra] = if (vlM M a g nv ra).1 = 0 then (0, 0, 1) else vlM M a g nv ra := rfl
            -- a fault of the first part is the node's
            have xa : (vlM M a g nv ra).1 ≠ 0 → vlM M a g nv (i, j) = vlM M a g nv ra := fun z => by
              rcases r5 with ⟨q, -⟩ | ⟨-, x1, x2, e1, e2⟩ | ⟨-, x1, x2, x3, e1, e2⟩
              · omega
              · have := (List.cons.inj e1).1
                subst this
                rw [e2, vbd, if_neg z]
              · have := (List.cons.inj e1).1
                subst this
                rw [e2, vbd, if_neg z]
            refine s_wo2 (n := n) (X := Lk) (s := 0) h h16 lk (Or.inl rfl) p0 pn (fun _ M4 t4 => ?_) (fun z => absurd z (by decide)) (fun z => absurd z (by decide)) (fun z => absurd z (by decide))
            obtain ⟨m4, l4, e4⟩ := t4
            have E4 := h.pile m4
            have K4 := kp99 h.1.2.1 m4
            have nd4 := E4.nod n
            refine (s_bg_first (X := Lk) E4.2.1 (by omega) (by rw [nd4.1]; exact cs) l4 (by omega)).mono (fun M5 t5 => ⟨t5.1, ?_⟩)
            obtain ⟨-, m5, l5, e5, x2, xn, x0, xf⟩ := t5
            rw [nd4.2.2.1] at xf
            have E5 := E4.pile m5
            have K5 := kp99 E4.1.2.1 m5
            refine ih f1 (by omega) 0 (n + 1) m' n0 e0 (Lk + 2) V 1 c M5 [ra] (by omega) q2 ⟨fun x hx => by rw [List.mem_singleton.1 hx]; exact eoa, by rw [if_pos rfl]; exact ⟨ra.1, ra.2, rfl, tb1⟩⟩ (by omega) (by omega) he0 E5 (by rw [K5.1, K4.1]; exact h16) (by rw [l5]) (fun j' hj' => ?_) (by rw [K5.1, K4.1]; exact hV) (by first | exact sbV (by omega) | omega) (by first | exact sbL (by omega) (by omega) | omega) (fun M6 l6 p6 => ?_) (fun M6 h6 x6 => ?_)
            · have j0 : j' = 0 := by omega
              subst j0
              exact ⟨x0, xf.trans b3⟩
            · rw [vfa] at p6
              have z1 : (vlM M a g nv ra).1 ≠ 0 := fun z => by rw [if_pos z] at p6; exact p6.1 rfl
              rw [if_neg z1] at p6
              have := xa z1
              exact w1x l6 (by rw [this]; exact z1) (by rw [this]; exact p6.2.1) (by rw [this]; exact p6.2.2)
            · have va0 := x6.2 0 (by simp)
              have va1 : (vlM M a g nv ra).1 = 0 := by rw [show vlM M a g nv ra = _ from va0]; rfl
              obtain ⟨E6, z16, l6, e6, v6, k6, o6⟩ := h6
              refine s_wo2 (n := n) (X := Lk) (s := 2) E6 z16 l6 (Or.inr (Or.inr (Or.inl rfl))) (by rw [e6 Lk (by omega)]; exact x2) (by rw [e6 (Lk + 1) (by omega)]; exact xn) (fun z => absurd z (by decide)) (fun z => absurd z (by decide)) (fun _ M7 t7 => ?_) (fun z => absurd z (by decide))
              obtain ⟨m7, l7, e7⟩ := t7
              have E7 := E6.pile m7
              have K7 := kp99 E6.1.2.1 m7
              have nd7 := E7.nod
              refine (x_MM_choose0 (d := d + 1) (V := V) (X := Lk) (c1 := n + 1) (c2 := m') E7.2.1 (by omega) (by rw [(nd7 n).2.2.1]; exact b3) (by omega) (by rw [(nd7 (n + 1)).2.2.2]; exact q1) (by omega) (by rw [K7.1]; exact v6) (by omega) l7 (by omega)).mono (fun M8 t8 => ⟨t8.1, ?_⟩)
              have lowT : ∀ j, j < Lk → nt M7 (a + 99) j = nt M2 (a + 99) j := fun j hj => by rw [e7, e6 j (by omega), e5 j hj, e4]
              have lowV : ∀ j, j < V → mL M7 (a + 97) j = mL M2 (a + 97) j ∧ mL M7 (a + 98) j = mL M2 (a + 98) j := fun j hj => ⟨by rw [K7.2.1, (k6 j hj).1, K5.2.1, K4.2.1], by rw [K7.2.2, (k6 j hj).2, K5.2.2, K4.2.2]⟩
              have u0t : c 0 = 1 := by
                unfold tyr at hty
                by_cases c32 : so M g n = 32
                · rw [if_neg (by omega), if_neg (by omega), if_pos c32] at hty
                  exact hty.1
                · rw [if_pos (by omega)] at hty
                  exact hty.1 0 (by omega)
              have va2 : vlM M a g nv ra = (0, mL M7 (a + 97) V, 1) := by
                have q := show vlM M a g nv ra = _ from va0
                rw [q, K7.2.1]
                unfold vr9
                rw [if_pos u0t]
                rfl
              have va3 : mL M7 (a + 97) V = 0 ∨ mL M7 (a + 97) V = 1 := by
                have o := o6 0 (by omega)
                rw [u0t, ← K7.2.1, ← K7.2.2] at o
                unfold vok at o
                rcases o with o | o
                · omega
                · exact o.2.1
              rcases t8.2 with ⟨y1, y3, y2⟩ | ⟨cc, hcc, m8, v8, f8, l8, e8, x8, y8⟩
              · subst y2
                rw [(nd7 n).1] at y1 y3
                refine hQ M8 ⟨E7, by rw [K7.1]; exact z16, l7, lowT, by rw [K7.1]; exact v6, lowV, fun j hj => ?_⟩ ?_
                rotate_left
                · rcases r5 with ⟨q, -⟩ | ⟨q, x1, x2, e1, e2⟩ | ⟨q, -⟩
                  · omega
                  · have := (List.cons.inj e1).1
                    subst this
                    have hu1 : u 0 = 1 := by
                      unfold tyr at hty
                      rw [if_pos (by omega)] at hty
                      exact hty.2
                    have ob := (o6 0 (by omega))
                    rw [u0t, ← K7.2.1, ← K7.2.2] at ob
                    refine w1 (A := mL M8 (a + 97) V) (B := mL M8 (a + 98) V) ?_ rfl rfl
                    rw [e2, va2, vbd, if_pos rfl]
                    show (if so M g n = 29 ↔ mL M8 (a + 97) V = 0 then ((0, mL M8 (a + 97) V, 1) : vrs) else vlM M a g nv x2) = _
                    rw [if_pos (by constructor <;> intro zz <;> omega)]
                    unfold vr9
                    rw [if_pos hu1]
                  · omega
                have j0 : j = 0 := by omega
                subst j0
                have o := o6 0 (by omega)
                rw [← K7.2.1, ← K7.2.2] at o
                unfold tyr at hty
                rw [if_pos (by omega)] at hty
                rw [hty.2, ← hty.1 0 (by omega)]
                exact o
              · have E8 := E7.step m8 (fun q hq => hq) (fun x hx => Or.inl hx) (fun i _ _ i3 => f8 i i3)
                have w7 := E7.1.2.1
                have in9 : ∀ q, q = a + 99 → q ∈ nums a := fun q hq => by rw [hq]; exact n99
                have l97 := (m8.cellL w7 in9 (offx (a := a) (o := 97) (by decide)) (by omega)).2
                have l98 := (m8.cellL w7 in9 (offx (a := a) (o := 98) (by decide)) (by omega)).2
                obtain ⟨n2, e2, f2, u2, d1, d2, d3, d4, d5, d6, rc, dr1, dr2, dr3⟩ : ∃ (n2 e2 f2 : Nat) (u2 : Nat → Int), cc = (n2 : Int) ∧ f2 < f1 + 1 + 1 ∧ Ty (nme F M g b W) (tn M g) M g f2 0 n2 e2 u2 ∧ u2 0 = u 0 ∧ m' ≤ n2 ∧ e2 ≤ e ∧ ∃ rc : Nat × Nat, Eo (wk M a) 6 rc.1 rc.2 ∧ Td (wk M a) (nt M (a + 7)) nv (so M g) (pm M g) (va M g) (fp M g) (np M g) 0 0 rc.1 rc.2 n2 e2 ∧ vlM M a g nv (i, j) = vlM M a g nv rc := by
                  unfold tyr at hty
                  cases f1 with
                  | zero => exact q3.elim
                  | succ f2 =>
                    by_cases c32 : so M g n = 32
                    · have k3 : k = 3 := by unfold ari at b2; omega
                      subst k3
                      rw [if_neg (by omega), if_neg (by omega), if_pos c32] at hty
                      rw [Ty, if_neg (by omega), if_neg (by omega)] at q3
                      obtain ⟨m2, r1', r2', r3'⟩ := q3
                      have g1 := r2'.tn.lt
                      have g2 := r3'.tn.lt
                      obtain ⟨rd3, rfl⟩ : ∃ r, rt2 = [r] := by
                        cases rt2 with
                        | nil => simp at lrt
                        | cons r rs =>
                          cases rs with
                          | nil => exact ⟨r, rfl⟩
                          | cons r2 rs => simp at lrt
                      obtain ⟨m3, tc1, tc2, tc3⟩ := tb3
                      have em3 : m3 = m2 := by omega
                      subst em3
                      obtain ⟨x1, x2, x3, e1, e2⟩ : ∃ r1 r2 r3, ([ra, rb, rd3] : List (Nat × Nat)) = [r1, r2, r3] ∧ vlM M a g nv (i, j) = vbd (vlM M a g nv r1) (fun x _ => if x = 0 then vlM M a g nv r3 else vlM M a g nv r2) := by
                        rcases r5 with ⟨q, -⟩ | ⟨q, -⟩ | ⟨-, q⟩
                        · omega
                        · omega
                        · exact q
                      simp only [List.cons.injEq, and_true] at e1
                      obtain ⟨e1a, e1b, e1c⟩ := e1
                      subst e1a e1b e1c
                      rcases hcc with z | z
                      · refine ⟨m', m3, f2, _, z.1, by omega, r2', hty.2.1, Nat.le_refl _, by omega, rb, r2 rb (by simp), tc1, ?_⟩
                        rw [e2, va2, vbd, if_pos rfl]
                        show (if mL M7 (a + 97) V = 0 then _ else _) = _
                        rw [if_neg]
                        rw [(nd7 n).1] at z
                        omega
                      · cases f2 with
                        | zero => exact r3'.elim
                        | succ f3 =>
                          rw [Ty, if_neg (by omega), if_pos (by omega)] at r3'
                          refine ⟨m3, e, f3, _, z.2.1.trans ((nd7 m').2.2.2.trans r1'), by omega, r3'.2, hty.2.2, by omega, Nat.le_refl _, rd3, r2 rd3 (by simp), tc3.1, ?_⟩
                          rw [e2, va2, vbd, if_pos rfl]
                          show (if mL M7 (a + 97) V = 0 then _ else _) = _
                          rw [if_pos]
                          have := z.2.2
                          omega
                    · have k3 : k = 2 := by unfold ari at b2; omega
                      subst k3
                      rw [if_pos (by omega)] at hty
                      rw [Ty, if_neg (by omega), if_pos (by omega)] at q3
                      have rt0 : rt2 = [] := by
                        cases rt2 with
                        | nil => rfl
                        | cons r rs => simp at lrt
                      subst rt0
                      obtain ⟨x1, x2, e1, e2⟩ : ∃ r1 r2, ([ra, rb] : List (Nat × Nat)) = [r1, r2] ∧ vlM M a g nv (i, j) = vbd (vlM M a g nv r1) (fun x y => if so M g n = 29 ↔ x = 0 then (0, x, y) else vlM M a g nv r2) := by
                        rcases r5 with ⟨q, -⟩ | ⟨-, q⟩ | ⟨q, -⟩
                        · omega
                        · exact q
                        · omega
                      simp only [List.cons.injEq, and_true] at e1
                      obtain ⟨e1a, e1b⟩ := e1
                      subst e1a e1b
                      rcases hcc with z | z
                      · refine ⟨m', e, f2, _, z.1, by omega, q3.2, (hty.1 1 (by omega)).trans hty.2.symm, Nat.le_refl _, Nat.le_refl _, rb, r2 rb (by simp), tb3.1, ?_⟩
                        rw [e2, va2, vbd, if_pos rfl]
                        show (if so M g n = 29 ↔ mL M7 (a + 97) V = 0 then _ else _) = _
                        rw [if_neg]
                        rw [(nd7 n).1] at z
                        omega
                      · exact absurd ((nd7 n).1.symm.trans z.1) c32
                have g3 := d3.tn.lt
                refine ih f2 d2 0 n2 e2 n0 e0 Lk V 1 u2 M8 [rc] (by omega) d3 ⟨fun x hx => by rw [List.mem_singleton.1 hx]; exact dr1, by rw [if_pos rfl]; exact ⟨rc.1, rc.2, rfl, dr2⟩⟩ (by omega) (by omega) he0 E8 (by rw [f8 16 (by omega), K7.1]; exact z16) (by rw [l8]) (fun j hj => ?_) v8 (by first | exact sbV (by omega) | omega) (by first | exact sbL (by omega) (by omega) | omega) (fun M9 l9 p9 => hX M9 l9 (by rw [vf1, dr3]; exact p9)) (fun M9 h9 x9 => hQ M9 ?_ ?_)
                · have j0 : j = 0 := by omega
                  subst j0
                  exact ⟨x8, y8.trans d1⟩
                rotate_left
                · have q9 := x9.2 0 (by simp)
                  rw [d4] at q9
                  exact w1 (by rw [dr3]; exact q9) rfl rfl
                · obtain ⟨E9, y16, l9, e9, v9, k9, o9⟩ := h9
                  refine ⟨E9, y16, l9, fun j hj => by rw [e9 j hj, e8 j hj, lowT j hj], v9, fun j hj => ⟨by rw [(k9 j hj).1, l97, (lowV j hj).1], by rw [(k9 j hj).2, l98, (lowV j hj).2]⟩, fun j hj => ?_⟩
                  have j0 : j = 0 := by omega
                  subst j0
                  rw [← d4]
                  exact o9 0 hj
        · -- the parts first
          refine s_wo2 (n := n) (X := Lk) (s := 0) h h16 lk (Or.inl rfl) p0 pn (fun _ M4 t4 => ?_) (fun z => absurd z (by decide)) (fun z => absurd z (by decide)) (fun z => absurd z (by decide))
          obtain ⟨m4, l4, e4⟩ := t4
          have E4 := h.pile m4
          have K4 := kp99 h.1.2.1 m4
          have nd4 := E4.nod n
          refine (s_bg_parts (X := Lk) E4.2.1 (by omega) b1 (by rw [nd4.1]; omega) (by rw [nd4.2.2.1]; exact b3) (E4.tnn b4.tn) (by omega) l4 (by omega)).mono (fun M5 t5 => ⟨t5.1, ?_⟩)
          obtain ⟨-, m5, l5, e5, x1, xn, v5⟩ := t5
          have E5 := E4.pile m5
          have K5 := kp99 E4.1.2.1 m5
          have cie : ∀ j, ci M4 g (n + 1) j = ci M g (n + 1) j := ci_cg (fun k => (E4.nod k).2.2.2)
          refine ih f (by omega) k (n + 1) e n0 e0 (Lk + 2) V k c M5 rs2 (by omega) b4 ⟨r2, by rw [if_neg (by omega)]; exact ⟨rk, r3⟩⟩ (by omega) he he0 E5 (by rw [K5.1, K4.1]; exact h16) (by rw [l5]) (fun j hj => ⟨(v5 j hj).1, (v5 j hj).2.trans (cie j)⟩) (by rw [K5.1, K4.1]; exact hV) (by first | exact sbV (by omega) | omega) (by first | exact sbL (by omega) (by omega) | omega) (fun M6 l6 p6 => ?_) (fun M6 h6 x6 => ?_)
          · have e9 : vlM M a g nv (i, j) = vfM M a g nv rs2 := by
              rcases r5 with ⟨-, q⟩ | ⟨q, -⟩ | ⟨q, -⟩
              · rw [q]; unfold vsq; rw [if_neg p6.1]
              · omega
              · omega
            exact w1x l6 (by rw [e9]; exact p6.1) (by rw [e9]; exact p6.2.1) (by rw [e9]; exact p6.2.2)
          have e9 : vlM M a g nv (i, j) = fnv (so M g n) (pm M g n) k (fun t => vlM M a g nv (rs2.getD t (0, 0))) := by
            rcases r5 with ⟨-, q⟩ | ⟨q, -⟩ | ⟨q, -⟩
            · rw [q]; unfold vsq; rw [if_pos x6.1, rk]
            · omega
            · omega
          obtain ⟨E6, z16, l6, e6, v6, k6, o6⟩ := h6
          refine s_wo2 (n := n) (X := Lk) (s := 1) E6 z16 l6 (Or.inr (Or.inl rfl)) (by rw [e6 Lk (by omega)]; exact x1) (by rw [e6 (Lk + 1) (by omega)]; exact xn) (fun z => absurd z (by decide)) (fun _ M7 t7 => ?_) (fun z => absurd z (by decide)) (fun z => absurd z (by decide))
          obtain ⟨m7, l7, e7⟩ := t7
          have E7 := E6.pile m7
          have K7 := kp99 E6.1.2.1 m7
          have nd7 := E7.nod n
          refine (x_MM_finish (d := d) (V := V) (k := k) (c := c) (t := u 0) E7.2.1 (by omega) b1 (by rw [nd7.1]; exact b2) (by rw [nd7.1]; omega) (by rw [nd7.2.2.1]; exact b3) (E7.tnn b4.tn) (by omega) (by rw [nd7.1]; exact hty) (fun j hj => by rw [K7.2.1, K7.2.2]; exact o6 j hj) (by rw [K7.1]; exact v6) (by omega)).mono (fun M8 t8 => ⟨t8.1, ?_⟩)
          obtain ⟨-, ⟨y1, y2, y3, y4⟩, y5⟩ := t8
          have ex : fnv (so M7 g n) (pm M7 g n) k (fun j => vr9 (c j) (mL M7 (a + 97) (V + j)) (mL M7 (a + 98) (V + j))) = vlM M a g nv (i, j) := by
            rw [e9, nd7.1, E7.pm]
            refine fnv_cg b1 (by rw [← nd7.1, nd7.1]; exact b2) (fun t ht => ?_)
            rw [x6.2 t (by rw [rk]; exact ht), K7.2.1, K7.2.2]
          rw [ex] at y5
          have E8 := E7.step y1 (fun _ z => z.elim) (fun x hx => hx) y2
          have s8 := y1.lst (n99 (a := a)) (fun z => z)
          have z7 : mI M7 a 16 = 0 := by rw [K7.1]; exact z16
          by_cases z8 : mI M8 a 16 = 0
          rotate_left
          · have w8 := E8.1.2.1
            refine k_MM_workOut_19 E8.1.1 ?_
            rw [r24w w8]
            refine ⟨w8.1.1, (w8.nu n99).1, fun _ => ?_, fun q => absurd (Or.inr z8) q⟩
            rcases y5 with ⟨q1, q2, q3⟩ | ⟨q2, -⟩
            · exact w1x E8 q1 q2 q3
            · rw [q2] at z8; exact absurd z7 z8
          have z := z8
          refine hQ M8 ?_ ?_
          rotate_left
          · rcases y5 with ⟨q1, q2, -⟩ | ⟨-, q2⟩
            · rw [z] at q2; exact absurd q2.symm q1
            · exact w1 q2 rfl rfl
          rcases y4 with y | ⟨w1', w2, w3⟩
          · exact absurd z y
          · refine ⟨E8, z, by rw [s8.1]; exact l7, fun j hj => by rw [s8.2.1, e7, e6 j (by omega), e5 j hj, e4], w2, fun j hj => ⟨by rw [(y3 j hj).1, K7.2.1, (k6 j hj).1, K5.2.1, K4.2.1], by rw [(y3 j hj).2, K7.2.2, (k6 j hj).2, K5.2.2, K4.2.2]⟩, fun j hj => ?_⟩
            have j0 : j = 0 := by omega
            subst j0
            exact w3
    · rw [if_neg c0] at ht htb
      obtain ⟨hlen, htb⟩ := htb
      have kkm : kk = md := by omega
      subst kkm
      by_cases c1 : kk = 1
      · subst c1
        rw [if_pos rfl] at ht
        obtain ⟨r, rfl⟩ : ∃ r, rs = [r] := by
          cases rs with
          | nil => simp at hlen
          | cons r rs =>
            cases rs with
            | nil => exact ⟨r, rfl⟩
            | cons r2 rs => simp at hlen
        exact ih f (by omega) 0 n e n0 e0 Lk V 1 u M2 [r] (by omega) ht.2 ⟨hrs, by rw [if_pos rfl]; exact ⟨r.1, r.2, rfl, htb.1⟩⟩ hn0 he he0 h h16 lk pk hV hVh hLh hX hQ
      · rw [if_neg c1] at ht
        obtain ⟨m, q1, q2, q3⟩ := ht
        have l1 := q2.tn.lt
        have l2 := q3.tn.ge
        obtain ⟨r, r2, rs2, rfl⟩ : ∃ r r2 rs2, rs = r :: r2 :: rs2 := by
          cases rs with
          | nil => simp at hlen; omega
          | cons r rs =>
            cases rs with
            | nil => simp at hlen; omega
            | cons r2 rs => exact ⟨r, r2, rs, rfl⟩
        obtain ⟨m', tb1, tb2, tb3⟩ := htb
        have em : m' = m := by omega
        subst em
        have eor : Eo (wk M a) 6 r.1 r.2 := hrs r (List.mem_cons_self ..)
        have vfc : vfM M a g nv (r :: r2 :: rs2) = if (vlM M a g nv r).1 = 0 then vfM M a g nv (r2 :: rs2) else vlM M a g nv r := rfl
        have vf1 : vfM M a g nv [r] = if (vlM M a g nv r).1 = 0 then (0, 0, 1) else vlM M a g nv r := rfl
        refine ih f (by omega) 0 n m' n0 e0 (Lk + 2 * (kk - 1)) V 1 u M2 [r] (by omega) q2 ⟨fun x hx => by rw [List.mem_singleton.1 hx]; exact eor, by rw [if_pos rfl]; exact ⟨r.1, r.2, rfl, tb1⟩⟩ hn0 (by omega) he0 h h16 (by rw [lk]; omega) (fun j hj => ?_) hV (by first | exact sbV (by omega) | omega) (by first | exact sbL (by omega) (by omega) | omega) (fun M3 l3 p3 => hX M3 l3 (by
          rw [vf1] at p3
          have z1 : (vlM M a g nv r).1 ≠ 0 := fun z => by rw [if_pos z] at p3; exact p3.1 rfl
          rw [if_neg z1] at p3
          rw [vfc, if_neg z1]
          exact p3)) (fun M3 h3 x3 => ?_)
        · have j0 : j = 0 := by omega
          subst j0
          have := pk 0 (by omega)
          rw [show Lk + 2 * (kk - 1) + 2 * (1 - 1 - 0) = Lk + 2 * (kk - 1 - 0) by first | rfl | omega]
          exact this
        · obtain ⟨g1, g2, g3, g4, g5, g6, g7⟩ := h3
          have va0 := x3.2 0 (by simp)
          have va1 : (vlM M a g nv r).1 = 0 := by rw [show vlM M a g nv r = _ from va0]; rfl
          refine ih f (by omega) (kk - 1) m' e n0 e0 Lk (V + 1) (kk - 1) (fun j => u (j + 1)) M3 (r2 :: rs2) (by omega) q3 ⟨fun x hx => hrs x (List.mem_cons_of_mem _ hx), by rw [if_neg (by omega)]; exact ⟨by simp only [List.length_cons] at hlen ⊢; omega, tb3⟩⟩ (by omega) he he0 g1 g2 g3 (fun j hj => ?_) g5 (by first | exact sbV (by omega) | omega) (by first | exact sbL (by omega) (by omega) | omega) (fun M4 l4 p4 => hX M4 l4 (by rw [vfc, if_pos va1]; exact p4)) (fun M4 h4 x4 => hQ M4 ?_ ?_)
          · have := pk (j + 1) (by omega)
            rw [ci_succ q1, show Lk + 2 * (kk - 1 - (j + 1)) = Lk + 2 * (kk - 1 - 1 - j) by first | rfl | omega] at this
            rw [g4 _ (by omega), g4 _ (by omega)]
            exact this
          · obtain ⟨f1, f2, f3, f4, f5, f6, f7⟩ := h4
            refine ⟨f1, f2, f3, fun j hj => by rw [f4 j hj, g4 j (by omega)], by rw [f5]; omega, fun j hj => ⟨by rw [(f6 j (by omega)).1, (g6 j hj).1], by rw [(f6 j (by omega)).2, (g6 j hj).2]⟩, fun j hj => ?_⟩
            cases j with
            | zero =>
              rw [(f6 (V + 0) (by omega)).1, (f6 (V + 0) (by omega)).2]
              exact g7 0 (by omega)
            | succ j =>
              have := f7 j (by omega)
              rw [show V + 1 + j = V + (j + 1) by first | rfl | omega] at this
              exact this
          · obtain ⟨f1, f2, f3, f4, f5, f6, f7⟩ := h4
            refine ⟨by rw [vfc, if_pos va1]; exact x4.1, fun t ht => ?_⟩
            cases t with
            | zero =>
              rw [(f6 (V + 0) (by omega)).1, (f6 (V + 0) (by omega)).2]
              exact va0
            | succ t =>
              have := x4.2 t (by simp only [List.length_cons] at ht ⊢; omega)
              rw [show V + 1 + t = V + (t + 1) by first | rfl | omega] at this
              exact this
end WRX
section WTX
variable {G : mG} {F : Prop} {d a g R W T : Nat} {M : mM} {nv : Nat → Int}
/-- a rule of consts has been worked out, or a fault told -/
def wrkX (F : Prop) (M : mM) (a g R W T : Nat) (t : Int) (v : vrs) (M' : mM) : Prop := wrkQ F M a g R W T t M' ∧ (mI M a 16 ≠ 0 ∨ fvq M' a v ∨ (mI M' a 16 = 0 ∧ v = vr9 t (mL M' (a + 97) 0) (mL M' (a + 98) 0)))
theorem x_MM_workOut {b f n e i j : Nat} {t : Int} (hF9 : ¬ F) (h : Ev F M a g R W T) (hb : b ≤ R) (eo : Eo (wk M a) 6 i j) (tm : Td (wk M a) (nt M (a + 7)) nv (so M g) (pm M g) (va M g) (fp M g) (np M g) 0 0 i j n e) (ht : Ty (nme F M g b W) (tn M g) M g f 0 n e (fun _ => t)) (he : e ≤ T) : Cv G y_MM_workOut (d + 4) [vr a, vr g, vi n] M (fun M' => mOk M' ∧ wrkX F M a g R W T t (vlM M a g nv (i, j)) M') := by
  obtain ⟨hO, w, hg, hd, hB, -, -⟩ := id h
  have hlt := ht.tn.lt
  refine k_MM_workOut hO (i32s (by omega) (by omega)) ⟨w.1.1, fun M2 e2 => ?_⟩
  obtain ⟨m2, f2⟩ := mv_fld (v := 0) ⟨by omega, by omega⟩ hO w e2
  have E2 : EO F M a g R W T M2 := (EO.refl h).step m2 (fun _ z => z.elim) (fun x hx => Or.inl hx) (fun i _ _ i3 => by rw [f2, if_neg i3])
  have w2 := m2.2.1
  rw [r24w w2]
  refine ⟨(w2.nu n99).1, fun M5 e5 => ?_⟩
  have b99 : 0 ≤ ln M2 (a + 99) := (w2.nu n99).2.2.2.1.1
  obtain ⟨m5, l5, -, -⟩ := mv_set m2.1 w2 n99 (v := 0) (by omega) b99 e5
  have E5 := E2.pile m5
  have K5 := kp99 w2 m5
  refine (s_MM_todo (d := d + 2) (X := 0) ⟨by omega, by omega⟩ (i32s (by omega) (by omega)) m5.1 m5.2.1 l5 (by omega)).mono (fun M7 t7 => ⟨t7.1, ?_⟩)
  obtain ⟨o7, m7, l7, -, x7, y7⟩ := t7
  have E7 := E5.pile m7
  have K7 := kp99 E5.1.2.1 m7
  have z17 : mI M7 a 16 = mI M a 16 := by rw [K7.1, K5.1, f2, if_neg (by omega)]
  by_cases z : mI M7 a 16 = 0
  · refine x_wo_run hF9 h hb f 0 n e n e 0 0 1 (fun _ => t) M7 [(i, j)] (by omega) ht ⟨fun r hr => by rw [List.mem_singleton.1 hr]; exact eo, by rw [if_pos rfl]; exact ⟨i, j, rfl, tm⟩⟩ (Nat.le_refl _) (Nat.le_refl _) he E7 z l7 (fun j hj => ?_) (by rw [K7.1, K5.1, f2, if_pos rfl]; rfl) (by omega) (by omega) (fun M3 l3 p3 => ?_) (fun M8 h8 x8 => ?_)
    · have j0 : j = 0 := by omega
      subst j0
      exact ⟨x7, y7⟩
    · have p3' : fvq M3 a (if (vlM M a g nv (i, j)).1 = 0 then (0, 0, 1) else vlM M a g nv (i, j)) := p3
      have z1 : (vlM M a g nv (i, j)).1 ≠ 0 := fun z => by rw [if_pos z] at p3'; exact p3'.1 rfl
      rw [if_neg z1] at p3'
      exact ⟨l3.1.1, ⟨l3, Or.inl (by rw [p3'.2.1]; exact z1)⟩, Or.inr (Or.inl p3')⟩
    · obtain ⟨E8, z16, l8, -, -, -, o8⟩ := h8
      have w8 := E8.1.2.1
      have l8' : mI M8 (a + 99) 1 = 0 := l8
      refine k_MM_workOut_19 E8.1.1 ?_
      rw [r24w w8, l8']
      exact ⟨w8.1.1, (w8.nu n99).1, fun _ => ⟨E8.1.1, ⟨E8, Or.inr ⟨z16, o8 0 (by omega)⟩⟩, Or.inr (Or.inr ⟨z16, x8.2 0 (by simp)⟩)⟩, fun q => absurd (Or.inl (Int.le_refl _)) q⟩
  · have w := E7.1.2.1
    refine k_MM_workOut_19 E7.1.1 ?_
    rw [r24w w]
    exact ⟨w.1.1, (w.nu n99).1, fun _ => ⟨E7.1.1, ⟨E7, Or.inl z⟩, Or.inl (by rw [← z17]; exact z)⟩, fun q => absurd (Or.inr z) q⟩
end WTX
end
section
/-! The reference's rule, exactly: a tree is made and looked at. -/
section TMP
variable {w pl nv nv' S A V F B S' A' V' F' B' : Nat → Int} {i j n e : Nat} {x : Int}
/-- the same nodes, the same tree -/
theorem Td_mp : ∀ (f c i j : Nat), 2 * (j - i) + c ≤ f → Eoc w c i j → ∀ (x : Int) (n e : Nat), Td w pl nv S A V F B c x i j n e → (∀ k, n ≤ k → k < e → S' k = S k ∧ A' k = A k ∧ (∀ t, S k = w t → V k = nv t → V' k = nv' t) ∧ F' k = F k) → (∀ k, n < k → k < e → B' k = B k) → (c = 1 → B' n = B n) → Td w pl nv' S' A' V' F' B' c x i j n e := by
  refine Eo_ind (P := fun c i j => ∀ (x : Int) (n e : Nat), Td w pl nv S A V F B c x i j n e → (∀ k, n ≤ k → k < e → S' k = S k ∧ A' k = A k ∧ (∀ t, S k = w t → V k = nv t → V' k = nv' t) ∧ F' k = F k) → (∀ k, n < k → k < e → B' k = B k) → (c = 1 → B' n = B n) → Td w pl nv' S' A' V' F' B' c x i j n e) ?_ ?_ ?_ ?_ ?_ ?_ ?_ ?_
  · intro i m q j h1 h2 h3 h4 h5 h6 h7 h8 o1 o2 o3 i1 i2 i3 x n e ht g1 g2 g3
    rw [Td_ask h1 h2 h3 h6 h8] at ht ⊢
    obtain ⟨a, b, ⟨s1, s2, s3⟩, t1, b1, t2, b2, t3, b3⟩ := ht
    have l1 := t1.lt (Or.inl ⟨rfl, o1⟩)
    have l2 := t2.lt (Or.inl ⟨rfl, o2⟩)
    have l3 := t3.lt (Or.inl ⟨rfl, o3⟩)
    obtain ⟨k1, k2, -, k4⟩ := g1 n (Nat.le_refl _) (by omega)
    exact ⟨a, b, ⟨by rw [k1]; exact s1, by rw [k2]; exact s2, by rw [k4]; exact s3⟩, i1 _ _ _ t1 (fun k u v => g1 k (by omega) (by omega)) (fun k u v => g2 k (by omega) (by omega)) (fun u => absurd u (by decide)), by rw [g2 _ (by omega) (by omega)]; exact b1, i2 _ _ _ t2 (fun k u v => g1 k (by omega) (by omega)) (fun k u v => g2 k (by omega) (by omega)) (fun u => absurd u (by decide)), by rw [g2 _ (by omega) (by omega)]; exact b2, i3 _ _ _ t3 (fun k u v => g1 k (by omega) (by omega)) (fun k u v => g2 k (by omega) (by omega)) (fun u => absurd u (by decide)), by rw [g2 _ (by omega) (by omega)]; exact b3⟩
  · intro i m j h1 h2 h3 h4 o1 o2 i1 i2 x n e ht g1 g2 g3
    rw [Td_bin h1 h2 h3 (by omega)] at ht ⊢
    obtain ⟨a, ⟨s1, s2, s3⟩, t1, b1, t2, b2⟩ := ht
    have l1 := t1.lt (Or.inl ⟨rfl, o1⟩)
    have l2 := t2.lt (Or.inl ⟨rfl, o2⟩)
    obtain ⟨k1, k2, -, k4⟩ := g1 n (Nat.le_refl _) (by omega)
    exact ⟨a, ⟨by rw [k1]; exact s1, by rw [k2]; exact s2, by rw [k4]; exact s3⟩, i1 _ _ _ t1 (fun k u v => g1 k (by omega) (by omega)) (fun k u v => g2 k (by omega) (by omega)) (fun u => absurd u (by decide)), by rw [g2 _ (by omega) (by omega)]; exact b1, i2 _ _ _ t2 (fun k u v => g1 k (by omega) (by omega)) (fun k u v => g2 k (by omega) (by omega)) (fun u => absurd u (by decide)), by rw [g2 _ (by omega) (by omega)]; exact b2⟩
  · intro i j h1 h2 h3 _ _ i1 x n e ht g1 g2 g3
    rw [Td_par h1 h2 h3] at ht ⊢
    exact i1 _ _ _ ht g1 g2 (fun u => absurd u (by decide))
  · intro i j h1 h2 h3 o1 i1 x n e ht g1 g2 g3
    rw [Td_pre h1 h2 h3] at ht ⊢
    obtain ⟨⟨s1, s2, s3⟩, t1, b1⟩ := ht
    have l1 := t1.lt (Or.inl ⟨rfl, o1⟩)
    obtain ⟨k1, k2, -, k4⟩ := g1 n (Nat.le_refl _) (by omega)
    exact ⟨⟨by rw [k1]; exact s1, by rw [k2]; exact s2, by rw [k4]; exact s3⟩, i1 _ _ _ t1 (fun k u v => g1 k (by omega) (by omega)) (fun k u v => g2 k (by omega) (by omega)) (fun u => absurd u (by decide)), by rw [g2 _ (by omega) (by omega)]; exact b1⟩
  · intro i h1 h3 x n e ht g1 g2 g3
    rw [Td_leaf h1 (by omega) h3] at ht ⊢
    obtain ⟨rfl, s1, s2, s3, s4⟩ := ht
    obtain ⟨k1, k2, k3, k4⟩ := g1 n (Nat.le_refl _) (by omega)
    exact ⟨rfl, by rw [k1]; exact s1, by rw [k2]; exact s2, by rw [k4]; exact s3, k3 i s1 s4⟩
  · intro i j h1 h2 h3 _ o1 i1 x n e ht g1 g2 g3
    rw [Td_lst h1 h2 h3] at ht ⊢
    obtain ⟨⟨s1, s2, s3⟩, t1⟩ := ht
    have l1 := t1.lt (Or.inr ⟨rfl, o1⟩)
    obtain ⟨k1, k2, -, k4⟩ := g1 n (Nat.le_refl _) (by omega)
    exact ⟨⟨by rw [k1]; exact s1, by rw [k2]; exact s2, by rw [k4]; exact s3⟩, i1 _ _ _ t1 (fun k u v => g1 k (by omega) (by omega)) (fun k u v => g2 k (by omega) (by omega)) (fun _ => g2 _ (by omega) (by omega))⟩
  · intro i j h1 h2 _ i1 x n e ht g1 g2 g3
    rw [Td_l1 h1 h2] at ht ⊢
    exact ⟨i1 _ _ _ ht.1 g1 g2 (fun u => absurd u (by decide)), by rw [g3 rfl]; exact ht.2⟩
  · intro i m j h1 h2 h3 h4 h5 o1 o2 i1 i2 x n e ht g1 g2 g3
    rw [Td_ln h1 h4 h2] at ht ⊢
    obtain ⟨k, t1, t2, b1⟩ := ht
    have l1 := t1.lt (Or.inr ⟨rfl, o1⟩)
    have l2 := t2.lt (Or.inl ⟨rfl, o2⟩)
    exact ⟨k, i1 _ _ _ t1 (fun k u v => g1 k (by omega) (by omega)) (fun k u v => g2 k (by omega) (by omega)) (fun _ => g3 rfl), i2 _ _ _ t2 (fun k u v => g1 k (by omega) (by omega)) (fun k u v => g2 k (by omega) (by omega)) (fun u => absurd u (by decide)), by rw [g2 _ (by omega) (by omega)]; exact b1⟩
theorem Td.mp {c : Nat} (h : Td w pl nv S A V F B c x i j n e) (he : Eoc w c i j) (g1 : ∀ k, n ≤ k → k < e → S' k = S k ∧ A' k = A k ∧ (∀ t, S k = w t → V k = nv t → V' k = nv' t) ∧ F' k = F k) (g2 : ∀ k, n < k → k < e → B' k = B k) (g3 : c = 1 → B' n = B n) : Td w pl nv' S' A' V' F' B' c x i j n e := Td_mp _ c i j (Nat.le_refl _) he x n e h g1 g2 g3
end TMP
section RUX9
variable {G : mG} {d a N g T K i j : Nat} {M M2 M3 : mM} {r co tr : Int} {E rv : Nat → Int}
/-- words, places, numbers and names stay while a tree is made -/
theorem tr_same (hg : g = a + 13 ∨ g = a + 49) (w : Wd M a) (m : Mv (trP a g) (fun _ => False) M a M2) : wk M2 a = wk M a ∧ nt M2 (a + 7) = nt M (a + 7) ∧ (∀ k, nvq M2 a k = nvq M a k) ∧ (∀ y r, fdx M2 a K y r → fdx M a K y r) ∧ (∀ k, nt M2 (a + 87) k = nt M (a + 87) k) ∧ (∀ k, nt M2 (a + 89) k = nt M (a + 89) k) := by
  have no := tL_no hg w
  have r := m.rfl_a w (fun q hq => trP_in hg hq)
  have e5 : wk M2 a = wk M a := funext (fun k => (m.lst n5 (fun q => q.elim no.1 (by omega))).2.1 k)
  have e7 : ∀ k, nt M2 (a + 7) k = nt M (a + 7) k := fun k => (m.lst n7 (fun q => q.elim no.2.1 (by omega))).2.1 k
  have e9 : ∀ k, nt M2 (a + 9) k = nt M (a + 9) k := fun k => (m.lst n9 (fun q => q.elim no.2.2.1 (by omega))).2.1 k
  have et : ∀ k, nt M2 (mR M2 a 2) k = nt M (mR M a 2) k := fun k => by
    rw [r]
    refine (m.lst w.tape.2.1 (fun q => q.elim no.2.2.2.1 (fun q => ?_))).2.1 k
    rcases w.1.2.1 with y | y <;> rw [y.2] at q <;> omega
  have e85 : ∀ k, nt M2 (a + 85) k = nt M (a + 85) k := fun k => (m.lst n85 (by omega)).2.1 k
  refine ⟨e5, funext e7, fun k => ?_, fun y r k => ?_, fun k => (m.lst n87 (by omega)).2.1 k, fun k => (m.lst n89 (by omega)).2.1 k⟩
  · unfold nvq
    rw [e5, e7, e9, show nt M2 (mR M2 a 2) = nt M (mR M a 2) from funext et]
  · have sm : ∀ x y, smx M2 a x y = smx M a x y := fun x y => by
      unfold smx
      simp only [e7, e9, et]
    unfold fdx at k ⊢
    simp only [sm, e85] at k
    exact k
/-- how leaves stand when names are resolved -/
def nrq (M : mM) (a : Nat) (rv : Nat → Int) (k : Nat) : Int := if wk M a k = 1 then rv k else nvq M a k
/-- the fault of a rule that must be a truth (tr = 1) or a number -/
noncomputable def rfq (M : mM) (a : Nat) (E : Nat → Int) (tr : Int) (i j : Nat) : Int × Int := fst9 (fl (wk M a) E (nt M (a + 7)) 0 i j) (kft (kdq (wk M a) E 0 i j = tr) (nt M (a + 7) i))
/-- the tree of a rule that has been looked at -/
abbrev Tmr (M M3 : mM) (a g : Nat) (rv : Nat → Int) (i j n e : Nat) : Prop := Td (wk M a) (nt M (a + 7)) (nrq M a rv) (so M3 g) (pm M3 g) (va M3 g) (fp M3 g) (np M3 g) 0 0 i j n e
/-- a tree has been made, then looked at -/
theorem trlk {T' : Nat} (hU : URq M a g N K co E rv) (hg : g = a + 13 ∨ g = a + 49) (w : Wd M a) (h2 : Lc M2 a g N T' K) (m : Mv (trP a g) (fun _ => False) M a M2) (etn : tn M2 g = tn M g) : URq M2 a g N K co E rv := by
  obtain ⟨k1, k2, k3, k4, k5, k6⟩ := tr_same (K := K) hg w m
  intro y r hy hw hf
  rw [k1] at hw
  have := hU y r hy hw (k4 y r hf)
  rw [k5, k6, etn]
  exact this
theorem tm_rs {T' : Nat} (hg : g = a + 13 ∨ g = a + 49) (w : Wd M a) (m : Mv (trP a g) (fun _ => False) M a M2) (w2 : Wd M2 a) (h3 : LO M2 a g N T' K M3) (eo : Eo (wk M a) 6 i j) (tm : Tm M M2 a g 0 0 i j T T') (hv : ∀ k, T ≤ k → k < T' → va M3 g k = rsw M2 g rv k) : Tmr M M3 a g rv i j T T' := by
  refine tm.mp (Or.inl ⟨rfl, eo⟩) (fun k k1 k2 => ⟨(h3.2.2.2.1 k).1, h3.pm w2 k, fun t s1 s2 => ?_, (h3.2.2.2.1 k).2.1⟩) (fun k _ _ => (h3.2.2.2.1 k).2.2) (fun u => absurd u (by decide))
  rw [hv k k1 k2]
  unfold rsw nrq
  by_cases c : so M2 g k = 1
  · have ct : wk M a t = 1 := by rw [← s1]; exact c
    rw [if_pos c, if_pos ct, s2]
    unfold nvq
    rw [if_pos ct, Int.toNat_natCast]
  · have ct : ¬ wk M a t = 1 := by rw [← s1]; exact c
    rw [if_neg c, if_neg ct, s2]
/-- a rule of a wanted type, exactly -/
def rlX (co : Int) (M : mM) (a g N T K i j : Nat) (E rv : Nat → Int) (tr r : Int) (M3 : mM) : Prop := r = T ∧ ∃ T', T < T' ∧ T' ≤ T + (j - i) ∧ rlR co M a g N T K T' tr M3 ∧ (mI M a 16 ≠ 0 ∨ (mI M3 a 16 ≠ 0 ∧ fpw M3 a (rfq M a E tr i j)) ∨ (mI M3 a 16 = 0 ∧ (rfq M a E tr i j).1 = 0 ∧ Tmr M M3 a g rv i j T T' ∧ ∀ n, n < T → pm M3 g n = pm M g n))
theorem tm_self {n e : Nat} (k1 : wk M2 a = wk M a) (k2 : nt M2 (a + 7) = nt M (a + 7)) (k3 : ∀ k, nvq M2 a k = nvq M a k) (h : Tm M M2 a g 0 0 i j n e) : Tm M2 M2 a g 0 0 i j n e := by
  unfold Tm
  rw [k1, k2, show nvq M2 a = nvq M a from funext k3]
  exact h
theorem x_MM_rule1 (hU : URq M a g N K co E rv) (hco : i32 co) (htr : tr = 0 ∨ tr = 1) (h : Lc M a g N T K) (hT : T + (j - i) ≤ 30000) (he : Eo (wk M a) 6 i j) (hj : j < N) : Ci G y_MM_rule1 (d + 7) [vr a, vi i, vi j, vi tr, vi co] M (rlX co M a g N T K i j E rv tr) := by
  obtain ⟨hO, hx, -, hd, h10, hg, -, -⟩ := id h
  have w := hx.1.1
  have hN := hx.1.2.2
  have hij := he.pr.1
  refine k_MM_rule1 hO (i32s (by omega) (by omega)) (i32s (by omega) (by omega)) (i32s (by omega) (by omega)) hco ⟨w.1.1, (x_MM_tree (d := d) hO hx hg h10 hd he hj (by omega)).mono (fun r M2 t => ?_)⟩
  obtain ⟨tt1, tt2, T9, tt3, tt4, tt5, tt6, tt7, tt8, tt9⟩ := t
  obtain ⟨er, T', t1, t2, L2, t3, e2, m2, s2⟩ := tr_lc h hT ⟨tt1, tt2, T9, tt3, tt4, tt5, tt6, tt7, tt9⟩
  have eT : T9 = T' := by
    have q1 := tt3 (g + 1) (by first | exact tLk1 g | exact gLk1 g | omega)
    have q2 := L2.2.2.2.1 (g + 1) (by first | exact tLk1 g | exact gLk1 g | omega)
    omega
  subst eT
  obtain ⟨k1, k2, k3, k4, k5, k6⟩ := tr_same (K := K) hg w tt1
  subst er
  have w2 := L2.2.1.1.1
  refine ⟨i32s (by omega) (by omega), L2.1, w2.1.1, (x_MM_look (d := d) (trlk hU hg w L2 tt1 e2.2.2.2) hco (nm := nmw (wk M a) N) (fun v hv => ⟨⟨hv.1, hv.2.1⟩, by rw [k1]; exact hv.2.2⟩) (by rw [k1]; exact he) (tm_self k1 k2 k3 tt8.1) L2 t3 (Nat.le_refl _)).mono (fun x M3 q0 => ?_)⟩
  obtain ⟨q, qx⟩ := q0
  have R := tl_rl h L2 e2 m2 s2 q
  rw [k1, k2, show mI M2 a = mI M a from e2.1] at qx
  obtain ⟨R1, R2, R3, R4, R5, R6⟩ := id R
  have w3 := R2.2.1.1.1
  refine ⟨i32s (by omega) (by omega), R2.1, w3.1.1, fun z => ⟨rfl, T9, t1, t2, ⟨R1, R2, R3, R4, htr, ?_⟩, ?_⟩, fun z => (s_MM_place0 (d := d + 5) R2.1 R2.2.1 (by omega)).mono (fun y M4 h4 => ?_)⟩
  · by_cases z1 : mI M3 a 16 = 0
    · rcases z with z | z
      · exact absurd z1 z
      · rw [← z]; exact R6
    · exact Or.inl z1
  · rcases qx with qx | ⟨qx, qf⟩ | ⟨qx, qf, qk, qv⟩
    · exact Or.inl qx
    · refine Or.inr (Or.inl ⟨qx, ?_⟩)
      unfold rfq
      rw [fst9_l (by rw [← qf.1]; exact qx)]
      exact qf
    · refine Or.inr (Or.inr ⟨qx, ?_, tm_rs hg w tt1 w2 q.1 he tt8.1 qv, fun n hn => (q.1.pm w2 n).trans (tt8.2 n hn)⟩)
      unfold rfq
      rw [fst9_r qf, kft_1, ← qk]
      rcases z with z | z
      · exact absurd qx z
      · exact z
  · obtain ⟨e4, hy⟩ := h4
    subst e4
    have hy32 : i32 y := by rw [hy]; exact (R2.1 _ _).1
    refine ⟨hy32, R2.1, w3.1.1, (s_MM_stop (i32s (by omega) (by omega)) hy32 R2.1 w3).mono (fun M5 h5 => ?_)⟩
    obtain ⟨m5, f1, f2, f3⟩ := h5
    have s7 := m5.lst (tL_in (a := a) (q := g + 7) hg (tLk7 g)) (fun z => z)
    obtain ⟨L5, -, g5, k5⟩ := R2.step m5 (fun q hq => hq.elim) (fun x hx => hx) s7.1
    refine ⟨m5.1, rfl, T9, t1, t2, ⟨R1.trans (k5.mono (fun x hx => Or.inr hx) (fun x hx => hx) (fun x hx => w3.lt (rlP_in hg hx))), L5, fun i i1 i2 => (f3 i i1 i2).trans (R3 i i1 i2), g5.trans R4, htr, Or.inl (by rw [f1]; decide)⟩, ?_⟩
    rcases qx with qx | ⟨qx, -⟩ | ⟨qx, qf, qk, qv⟩
    · exact Or.inl qx
    · omega
    · refine Or.inr (Or.inl ⟨by rw [f1]; decide, ?_⟩)
      have z9 : ¬ kdq (wk M a) E 0 i j = tr := by rw [← qk]; omega
      unfold rfq kft
      rw [fst9_r qf, if_neg z9]
      have p7 := (q.1.txt w2).1 i
      exact ⟨f1, by rw [f2, hy, p7, k2]⟩
end RUX9
end
section
/-! The reference's names and the pure ones. -/
section RNM
variable {a g N K : Nat} {M : mM} {co : Int}
theorem smx.symm {x y : Nat} (h : smx M a x y) : smx M a y x := ⟨h.1.symm, fun i hi => (h.2 i (by have := h.1; omega)).symm⟩
theorem smx.trans {x y z : Nat} (h : smx M a x y) (k : smx M a y z) : smx M a x z := ⟨by rw [k.1, h.1], fun i hi => (h.2 i hi).trans (k.2 i (by have := h.1; omega))⟩
theorem fdx_ex (y : Nat) : ∀ K, ∃ r, fdx M a K y r
  | 0 => ⟨-1, Or.inl ⟨rfl, fun k hk => absurd hk (by omega)⟩⟩
  | K + 1 => by
    by_cases c : smx M a (nt M (a + 85) K).toNat y
    · exact ⟨K, Or.inr ⟨K, rfl, by omega, c, fun k h1 h2 => absurd h1 (by omega)⟩⟩
    · obtain ⟨r, h | ⟨q, h1, h2, h3, h4⟩⟩ := fdx_ex y K
      · refine ⟨r, Or.inl ⟨h.1, fun k hk => ?_⟩⟩
        by_cases e : k = K
        · rw [e]; exact c
        · exact h.2 k (by omega)
      · refine ⟨r, Or.inr ⟨q, h1, by omega, h3, fun k k1 k2 => ?_⟩⟩
        by_cases e : k = K
        · rw [e]; exact c
        · exact h4 k k1 (by omega)
theorem fdx_un {y : Nat} {r r' : Int} (h : fdx M a K y r) (h' : fdx M a K y r') : r = r' := by
  rcases h with ⟨h1, h2⟩ | ⟨q, h1, h2, h3, h4⟩ <;> rcases h' with ⟨k1, k2⟩ | ⟨q', k1, k2, k3, k4⟩
  · rw [h1, k1]
  · exact absurd k3 (h2 q' k2)
  · exact absurd h3 (k2 q h2)
  · have : q = q' := by
      rcases Nat.lt_trichotomy q q' with c | c | c
      · exact absurd k3 (h4 q' c k2)
      · exact c
      · exact absurd h3 (k4 q c h2)
    rw [h1, k1, this]
/-- the place of the word y among the names -/
noncomputable def fdn (M : mM) (a K y : Nat) : Int := Classical.choose (fdx_ex (M := M) (a := a) y K)
theorem fdn_x (y : Nat) : fdx M a K y (fdn M a K y) := Classical.choose_spec (fdx_ex y K)
theorem fdn_un {y : Nat} {r : Int} (h : fdx M a K y r) : r = fdn M a K y := fdx_un h (fdn_x y)
/-- how a name is resolved, and its kind -/
noncomputable def rvn (M : mM) (a K y : Nat) : Int := if nt M (a + 87) (fdn M a K y).toNat = 3 then 100 + nt M (a + 89) (fdn M a K y).toNat else nt M (a + 89) (fdn M a K y).toNat
noncomputable def Ern (M : mM) (a g K : Nat) (co : Int) (y : Nat) : Int := haveI := Classical.propDecidable (fdn M a K y = -1 ∨ (co ≠ 0 ∧ nt M (a + 87) (fdn M a K y).toNat ≠ 1)); if fdn M a K y = -1 ∨ (co ≠ 0 ∧ nt M (a + 87) (fdn M a K y).toNat ≠ 1) then -1 else tn M g (rvn M a K y)
theorem ur_n : URq M a g N K co (Ern M a g K co) (rvn M a K) := by
  intro y r _ _ h
  rw [fdn_un h]
  refine ⟨fun z => ?_, fun z => ?_⟩
  · unfold Ern; rw [if_pos z]
  · unfold Ern; rw [if_neg z]; exact ⟨rfl, rfl⟩
/-- the names of the reference are these -/
def RSq (M : mM) (a g K : Nat) (nms : List nm9) : Prop := nms.length = K ∧ (∀ q, q < K → ∃ e : nm9, nms[q]? = some e ∧ nt M (a + 85) q = e.1 ∧ nt M (a + 87) q = e.2.1 ∧ (1 ≤ e.2.1 ∧ e.2.1 ≤ 3) ∧ e.2.2.1 = tn M g (if nt M (a + 87) q = 3 then 100 + nt M (a + 89) q else nt M (a + 89) q) ∧ (e.2.1 = 1 → e.2.2.2 = vr9 e.2.2.1 (mL M (g + 16) (nt M (a + 89) q).toNat) (mL M (g + 17) (nt M (a + 89) q).toNat)) ∧ nt M (a + 89) q = (if e.2.1 = 3 then ((vcn (nms.take q) : Nat) : Int) else ((rcn (nms.take q) : Nat) : Int))) ∧ (∀ p q, p < q → q < K → ¬ smx M a (nt M (a + 85) p).toNat (nt M (a + 85) q).toNat) ∧ ∀ p q, p < q → q < K → nt M (a + 87) p = 3 → nt M (a + 87) q = 3 → nt M (a + 89) p ≠ nt M (a + 89) q
theorem RSq.fnd {nms : List nm9} (h : RSq M a g K nms) (y : Nat) : (fdn M a K y = -1 ∧ fnd9 (smx M a) nms y = none) ∨ ∃ (q : Nat) (e : nm9), fdn M a K y = q ∧ q < K ∧ nms[q]? = some e ∧ fnd9 (smx M a) nms y = some e := by
  obtain ⟨hl, hn, hu, -⟩ := h
  have at9 : ∀ {q : Nat} {e : nm9}, nms[q]? = some e → q < K := fun {q e} z => by
    rw [← hl]
    exact (List.getElem?_eq_some_iff.mp z).1
  have same : ∀ {q : Nat} {e : nm9}, nms[q]? = some e → (nt M (a + 85) q).toNat = e.1 := fun {q e} z => by
    obtain ⟨e', z1, z2, -⟩ := hn q (at9 z)
    have : e' = e := Option.some.inj (z1.symm.trans z)
    subst this
    rw [z2, Int.toNat_natCast]
  rcases fdn_x (M := M) (a := a) (K := K) y with ⟨h1, h2⟩ | ⟨q, h1, h2, h3, -⟩
  · refine Or.inl ⟨h1, ?_⟩
    unfold fnd9
    rw [List.find?_eq_none]
    intro e he
    obtain ⟨q, z⟩ := List.mem_iff_getElem?.mp he
    simp only [decide_eq_true_eq]
    rw [← same z]
    exact h2 q (at9 z)
  · obtain ⟨e, z, -⟩ := hn q h2
    refine Or.inr ⟨q, e, h1, h2, z, ?_⟩
    unfold fnd9
    cases c : nms.find? (fun e => @decide (smx M a e.1 y) (Classical.propDecidable _)) with
    | none =>
      rw [List.find?_eq_none] at c
      have := c e (List.mem_of_getElem? z)
      simp only [decide_eq_true_eq] at this
      rw [← same z] at this
      exact absurd h3 this
    | some e' =>
      have m1 := List.find?_some c
      simp only [decide_eq_true_eq] at m1
      obtain ⟨q', z'⟩ := List.mem_iff_getElem?.mp (List.mem_of_find?_eq_some c)
      rw [← same z'] at m1
      have qq : q' = q := by
        rcases Nat.lt_trichotomy q' q with d | d | d
        · exact absurd (m1.trans h3.symm) (hu q' q d h2)
        · exact d
        · exact absurd (h3.trans m1.symm) (hu q q' d (at9 z'))
      subst qq
      rw [z] at z'
      exact z'.symm
theorem RSq.en {nms : List nm9} (h : RSq M a g K nms) (hc : co = 0 ∨ co = 1) : Ern M a g K co = E9 (smx M a) nms co := by
  funext y
  unfold Ern E9
  rcases h.fnd y with ⟨h1, h2⟩ | ⟨q, e, h1, h2, h3, h4⟩
  · rw [if_pos (Or.inl h1), h2]
  · rw [h4, h1, Int.toNat_natCast]
    obtain ⟨e', z1, z2, z3, z4, z5, -⟩ := h.2.1 q h2
    have : e' = e := Option.some.inj (z1.symm.trans h3)
    subst this
    show _ = if co = 1 ∧ e'.2.1 ≠ 1 then (-1 : Int) else e'.2.2.1
    by_cases c : co = 1 ∧ e'.2.1 ≠ 1
    · rw [if_pos c, if_pos (Or.inr ⟨by omega, by rw [z3]; omega⟩)]
    · rw [if_neg c, if_neg (by rw [z3]; omega), z5]
      unfold rvn
      rw [h1, Int.toNat_natCast]
end RNM
end
section
/-! The reference's draft and the pure state. -/
section RST
variable {a g N T K R W C Z : Nat} {M M' M2 M3 : mM} {nms : List nm9}
/-- the same text -/
def SXq (M : mM) (a : Nat) (M' : mM) : Prop := wk M' a = wk M a ∧ nt M' (a + 7) = nt M (a + 7) ∧ nt M' (a + 9) = nt M (a + 9) ∧ nt M' (mR M' a 2) = nt M (mR M a 2)
theorem SXq.refl : SXq M a M := ⟨rfl, rfl, rfl, rfl⟩
theorem SXq.trans (h : SXq M a M2) (k : SXq M2 a M3) : SXq M a M3 := ⟨k.1.trans h.1, k.2.1.trans h.2.1, k.2.2.1.trans h.2.2.1, k.2.2.2.trans h.2.2.2⟩
theorem SXq.sm (h : SXq M a M') : smx M' a = smx M a := by
  funext x y
  unfold smx
  rw [h.2.1, h.2.2.1, h.2.2.2]
theorem SXq.nv (h : SXq M a M') : nvq M' a = nvq M a := by
  funext k
  unfold nvq
  rw [h.1, h.2.1, h.2.2.1, h.2.2.2]
theorem iF.sx (h : iF M a g M') (w : Wd M a) (hg : g = a + 13 ∨ g = a + 49) : SXq M a M' := by
  have no : ∀ q, q = a + 1 ∨ q = a + 3 ∨ q = a + 5 ∨ q = a + 7 ∨ q = a + 9 → ¬ itP a g q := fun q hq z => by
    have := z.2
    omega
  have r := h.1.rfl_a w (fun q hq => hq.1)
  refine ⟨funext (fun k => (h.1.lst n5 (no _ (by omega))).2.1 k), funext (fun k => (h.1.lst n7 (no _ (by omega))).2.1 k), funext (fun k => (h.1.lst n9 (no _ (by omega))).2.1 k), ?_⟩
  rw [r]
  refine funext (fun k => (h.1.lst w.tape.2.1 (no _ ?_)).2.1 k)
  rcases w.1.2.1 with y | y <;> rw [y.2] <;> omega
/-- the values of numbers, in a text -/
def nuq (M : mM) (a k : Nat) : Int := numq (nt M (mR M a 2)) (nt M (a + 7) k).toNat (nt M (a + 9) k - nt M (a + 7) k).toNat
theorem SXq.nu (h : SXq M a M') : nuq M' a = nuq M a := by
  funext k
  unfold nuq
  rw [h.2.1, h.2.2.1, h.2.2.2]
/-- names stay what they are -/
theorem RSq.ge (h : RSq M a g K nms) (hn : Nm M a g N K) (g6 : mI M g 6 = R) (g12 : mI M g 12 = W) (hR : R ≤ 60) (k : Ge M g R W C Z T M') (sx : SXq M a M') (s85 : ∀ q, q < K → nt M' (a + 85) q = nt M (a + 85) q ∧ nt M' (a + 87) q = nt M (a + 87) q ∧ nt M' (a + 89) q = nt M (a + 89) q) : RSq M' a g K nms := by
  obtain ⟨h1, h2, h3, h4⟩ := h
  refine ⟨h1, fun q hq => ?_, fun p q hpq hq => ?_, fun p q hpq hq => by rw [(s85 p (by omega)).2.1, (s85 q hq).2.1, (s85 p (by omega)).2.2, (s85 q hq).2.2]; exact h4 p q hpq hq⟩
  · obtain ⟨e, e1, e2, e3, e4, e5, e6, e7⟩ := h2 q hq
    obtain ⟨s1, s2, s3⟩ := s85 q hq
    have nq := (hn.2.2.2.2 q hq).2.1
    rw [g6, g12] at nq
    refine ⟨e, e1, by rw [s1]; exact e2, by rw [s2]; exact e3, e4, ?_, fun z => ?_, by rw [s3]; exact e7⟩
    · rw [e5, s2, s3]
      by_cases c : nt M (a + 87) q = 3
      · rw [if_pos c]
        exact (k.1.tv (by omega) (by omega)).symm
      · rw [if_neg c]
        have := k.1.tr (r := (nt M (a + 89) q).toNat) hR (by omega)
        rw [show (((nt M (a + 89) q).toNat : Nat) : Int) = nt M (a + 89) q by first | rfl | omega] at this
        exact this.symm
    · rw [e6 z, s3, (k.2.1 _ (by omega)).2.1, (k.2.1 _ (by omega)).2.2]
  · rw [sx.sm, (s85 p (by omega)).1, (s85 q hq).1]
    exact h3 p q hpq hq
/-- one name more -/
theorem RSq.kn {u : Nat} {v x : Int} {e : nm9} (h : RSq M a g K nms) (hs : ∀ q, q < K → nt M' (a + 85) q = nt M (a + 85) q ∧ nt M' (a + 87) q = nt M (a + 87) q ∧ nt M' (a + 89) q = nt M (a + 89) q) (ht : tn M' g = tn M g) (hl : mL M' (g + 16) = mL M (g + 16) ∧ mL M' (g + 17) = mL M (g + 17)) (sx : SXq M a M') (e1 : nt M' (a + 85) K = (u : Int)) (e2 : nt M' (a + 87) K = v) (e3 : nt M' (a + 89) K = x) (f1 : e.1 = u) (f2 : (e.2.1 : Int) = v) (f3 : 1 ≤ e.2.1 ∧ e.2.1 ≤ 3) (f4 : e.2.2.1 = tn M g (if v = 3 then 100 + x else x)) (f5 : e.2.1 = 1 → e.2.2.2 = vr9 e.2.2.1 (mL M (g + 16) x.toNat) (mL M (g + 17) x.toNat)) (hnew : fdn M a K u = -1) (f6 : v = 3 → ∀ p, p < K → nt M (a + 87) p = 3 → nt M (a + 89) p ≠ x) (f7 : x = if e.2.1 = 3 then ((vcn nms : Nat) : Int) else ((rcn nms : Nat) : Int)) : RSq M' a g (K + 1) (nms ++ [e]) := by
  obtain ⟨h1, h2, h3, h4⟩ := h
  refine ⟨by rw [List.length_append, h1]; rfl, fun q hq => ?_, fun p q hpq hq => ?_, fun p q hpq hq z1 z2 => ?_⟩
  · by_cases c : q = K
    · subst c
      refine ⟨e, by rw [List.getElem?_append_right (by omega), h1, Nat.sub_self]; rfl, by rw [e1, f1], by rw [e2, f2], f3, ?_, fun z => ?_, by rw [e3, f7, List.take_append_of_le_length (by omega), List.take_of_length_le (by omega)]⟩
      · rw [f4, e2, e3, ht]
      · rw [f5 z, e3, hl.1, hl.2]
    · obtain ⟨e', g1, g2, g3, g4, g5, g6, g7⟩ := h2 q (by omega)
      obtain ⟨s1, s2, s3⟩ := hs q (by omega)
      exact ⟨e', by rw [List.getElem?_append_left (by omega)]; exact g1, by rw [s1]; exact g2, by rw [s2]; exact g3, g4, by rw [g5, s2, s3, ht], fun z => by rw [g6 z, s3, hl.1, hl.2], by rw [s3, List.take_append_of_le_length (by omega)]; exact g7⟩
  · rw [sx.sm, (hs p (by omega)).1]
    by_cases c : q = K
    · subst c
      rw [e1, Int.toNat_natCast]
      rcases fdn_x (M := M) (a := a) (K := q) u with ⟨-, k2⟩ | ⟨q', k1, -⟩
      · exact k2 p hpq
      · omega
    · rw [(hs q (by omega)).1]
      exact h3 p q hpq (by omega)
  · rw [(hs p (by omega)).2.1] at z1
    rw [(hs p (by omega)).2.2]
    by_cases c : q = K
    · subst c
      rw [e2] at z2
      rw [e3]
      exact f6 z2 p hpq z1
    · rw [(hs q (by omega)).2.1] at z2
      rw [(hs q (by omega)).2.2]
      exact h4 p q hpq (by omega) z1 z2
/-- the values of words -/
theorem RSq.cv (h : RSq M a g K nms) {k : Nat} (hk : wk M a k = 1 → Ern M a g K 1 k ≠ -1) : cvq M a g (nrq M a (rvn M a K)) k = cv9 (wk M a) (nuq M a) (smx M a) nms k := by
  unfold cvq cv9 nrq
  by_cases c : wk M a k = 1
  · rw [if_pos c, if_pos c, if_pos c]
    have hk := hk c
    unfold Ern at hk
    rcases h.fnd k with ⟨h1, h2⟩ | ⟨q, e, h1, h2, h3, h4⟩
    · rw [if_pos (Or.inl h1)] at hk
      exact absurd rfl hk
    · rw [h4]
      obtain ⟨e', z1, z2, z3, z4, z5, z6, -⟩ := h.2.1 q h2
      have : e' = e := Option.some.inj (z1.symm.trans h3)
      subst this
      have s1 : e'.2.1 = 1 := by
        by_cases c1 : nt M (a + 87) q = 1
        · rw [z3] at c1; omega
        · rw [if_pos (Or.inr ⟨by decide, by rw [h1, Int.toNat_natCast]; exact c1⟩)] at hk
          exact absurd rfl hk
      have s2 : nt M (a + 87) q ≠ 3 := by rw [z3, s1]; decide
      show _ = e'.2.2.2
      unfold rvn
      rw [z6 s1, h1, Int.toNat_natCast, if_neg s2, z5, if_neg s2]
  · rw [if_neg c, if_neg c]
    by_cases c2 : wk M a k = 2
    · rw [if_pos c2, if_pos c2, if_neg c]
      unfold nvq nuq
      rw [if_neg c, if_pos c2]
    · rw [if_neg c2, if_neg c2, if_neg c]
/-- how numbers and names stand in a tree -/
theorem RSq.nvo (h : RSq M a g K nms) : Nvq (wk M a) (nuq M a) (smx M a) nms (nrq M a (rvn M a K)) := by
  refine ⟨fun k hk => ?_, fun k hk l1 e l2 he hs hno => ?_⟩
  · unfold nrq nvq nuq
    rw [if_neg (by omega), if_neg (by omega), if_pos hk]
  · have hl : l1.length < K := by
      rw [← h.1, he, List.length_append, List.length_cons]
      omega
    have ge : nms[l1.length]? = some e := by rw [he, List.getElem?_append_right (Nat.le_refl _), Nat.sub_self]; rfl
    have tk : nms.take l1.length = l1 := by rw [he, List.take_left']; rfl
    obtain ⟨e0, z1, z2, z3, z4, z5, z6, z7⟩ := h.2.1 l1.length hl
    have e0e : e0 = e := Option.some.inj (z1.symm.trans ge)
    subst e0e
    have fq : fdn M a K k = (l1.length : Int) := by
      rcases fdn_x (M := M) (a := a) (K := K) k with ⟨f1, f2⟩ | ⟨q, f1, f2, f3, f4⟩
      · have := f2 l1.length hl
        rw [z2, Int.toNat_natCast] at this
        exact absurd hs this
      · rcases Nat.lt_trichotomy q l1.length with c | c | c
        · have := f4 l1.length c hl
          rw [z2, Int.toNat_natCast] at this
          exact absurd hs this
        · rw [f1, c]
        · have := h.2.2.1 l1.length q c f2
          rw [z2, Int.toNat_natCast] at this
          exact absurd (hs.trans f3.symm) this
    unfold nrq
    rw [if_pos hk]
    unfold rvn
    rw [fq, Int.toNat_natCast, z3, z7, tk]
    by_cases c : e0.2.1 = 3
    · rw [if_pos (by omega), if_pos c, if_pos c]
    · rw [if_neg (by omega), if_neg c, if_neg c]
end RST
end
section
/-! The reference's items, exactly: const and formula. -/
section RIX
variable {G : mG} {d a g R W C Z T N K : Nat} {M M' M2 M3 : mM} {E : Eg9} {tg : Int} {s s' : st9} {nms : List nm9}
/-- the text in memory, names, a game -/
noncomputable def txg (M : mM) (a N : Nat) (nms : List nm9) (gm : gm9) : gW9 := (wk M a, nt M (a + 7), nuq M a, smx M a, N, nms, gm)
theorem SXq.tx9 (h : SXq M a M') {nms : List nm9} {gm : gm9} : txg M' a N nms gm = txg M a N nms gm := by
  unfold txg
  rw [h.1, h.2.1, h.nu, h.sm]
/-- the draft is sound, and it is the pure state s and the pure game gm -/
def DfS (M : mM) (a g N k : Nat) (s : st9) (gm : gm9) : Prop := ∃ (T K R W C Z : Nat) (E : Eg9) (tg : Int), Df M a g N T K R W C Z E tg ∧ (T ≤ k ∧ Z ≤ k) ∧ RSq M a g K s.1 ∧ s.2.1 = (W, R, C, if tg = -1 then 0 else 1) ∧ E.2 = txg M a N s.1 gm
/-- an item has been read: s' tells the fault or the draft -/
def itX (M : mM) (a g N k : Nat) (s' : st9) (gm : gm9) (M' : mM) : Prop := iF M a g M' ∧ ((s'.2.2.1 ≠ 0 ∧ fpw M' a s'.2.2) ∨ (s'.2.2.1 = 0 ∧ mI M' a 16 = 0 ∧ DfS M' a g N k s' gm))
/-- a fault is told at a word -/
theorem x_st_it {gm : gm9} {c : Int} {k k' : Nat} (hc : c ≠ 0) (hc2 : i32 c) (h : Lc M a g N T K) (hk : k < N) (es : s'.2.2 = (c, nt M (a + 7) k)) : Ci G y_MM_place0 (d + 1) [vr a, vi k] M (fun x M2 => i32 x ∧ mOk M2 ∧ (mK M2 a = 14 ∧ Cv G y_MM_stop (d + 1) [vr a, vi c, vi x] M2 (fun M3 => mOk M3 ∧ (mOk M3 ∧ itX M a g N k' s' gm M3)))) := by
  have w := h.2.1.1.1
  refine (s_MM_place0 (d := d) h.1 h.2.1 hk).mono (fun y M4 h4 => ?_)
  obtain ⟨e4, hy⟩ := h4
  subst e4
  have hy32 : i32 y := by rw [hy]; exact (h.1 _ _).1
  refine ⟨hy32, h.1, w.1.1, (s_MM_stop hc2 hy32 h.1 w).mono (fun M5 h5 => ⟨h5.1.1, h5.1.1, (st_it (g := g) (N := N) (k := k') w hc h5).1, Or.inl ?_⟩)⟩
  rw [es]
  exact ⟨hc, h5.2.1, by rw [h5.2.2.1]; exact hy⟩
/-- names stay, nothing of theirs has changed -/
theorem RSq.eq (h : RSq M a g K nms) (hs : ∀ q, q < K → nt M' (a + 85) q = nt M (a + 85) q ∧ nt M' (a + 87) q = nt M (a + 87) q ∧ nt M' (a + 89) q = nt M (a + 89) q) (ht : tn M' g = tn M g) (hl : mL M' (g + 16) = mL M (g + 16) ∧ mL M' (g + 17) = mL M (g + 17)) (sx : SXq M a M') : RSq M' a g K nms := by
  obtain ⟨h1, h2, h3, h4⟩ := h
  refine ⟨h1, fun q hq => ?_, fun p q hpq hq => ?_, fun p q hpq hq => by rw [(hs p (by omega)).2.1, (hs q hq).2.1, (hs p (by omega)).2.2, (hs q hq).2.2]; exact h4 p q hpq hq⟩
  · obtain ⟨e', g1, g2, g3, g4, g5, g6, g7⟩ := h2 q hq
    obtain ⟨s1, s2, s3⟩ := hs q hq
    exact ⟨e', g1, by rw [s1]; exact g2, by rw [s2]; exact g3, g4, by rw [g5, s2, s3, ht], fun z => by rw [g6 z, s3, hl.1, hl.2], by rw [s3]; exact g7⟩
  · rw [sx.sm, (hs p (by omega)).1, (hs q hq).1]
    exact h3 p q hpq hq
/-- the lists of names are the same -/
def lst3 (M : mM) (a : Nat) (M' : mM) : Prop := sameN M M' (a + 85) ∧ sameN M M' (a + 87) ∧ sameN M M' (a + 89)
theorem lst3.trans (h : lst3 M a M2) (k : lst3 M2 a M3) : lst3 M a M3 := ⟨h.1.trans k.1, h.2.1.trans k.2.1, h.2.2.trans k.2.2⟩
theorem lst3.q (h : lst3 M a M') (K : Nat) : ∀ q, q < K → nt M' (a + 85) q = nt M (a + 85) q ∧ nt M' (a + 87) q = nt M (a + 87) q ∧ nt M' (a + 89) q = nt M (a + 89) q := fun q _ => ⟨h.1.2.1 q, h.2.1.2.1 q, h.2.2.2.1 q⟩
theorem lst3.of {P S : Nat → Prop} (m : Mv P S M a M') (h : ∀ i, i = 85 ∨ i = 87 ∨ i = 89 → ¬ P (a + i)) : lst3 M a M' := ⟨m.lst n85 (h 85 (by omega)), m.lst n87 (h 87 (by omega)), m.lst n89 (h 89 (by omega))⟩
theorem lst3.fd (h : lst3 M a M') (sx : SXq M a M') (y : Nat) : fdn M' a K y = fdn M a K y := by
  refine fdn_un ?_
  have k := fdn_x (M := M') (a := a) (K := K) y
  have e85 : ∀ k, nt M' (a + 85) k = nt M (a + 85) k := h.1.2.1
  unfold fdx at k ⊢
  simp only [sx.sm, e85] at k
  exact k
theorem lst3.rv (h : lst3 M a M') (sx : SXq M a M') : rvn M' a K = rvn M a K := by
  funext y
  unfold rvn
  rw [h.fd sx, h.2.1.2.1, h.2.2.2.1]
/-- a known name -/
theorem RSq.kw (h : RSq M a g K nms) {y : Nat} {r : Int} (hf : fdx M a K y r) : (r = -1 → fnd9 (smx M a) nms y = none) ∧ (r ≠ -1 → fnd9 (smx M a) nms y ≠ none) := by
  rw [fdn_un hf]
  rcases h.fnd y with ⟨h1, h2⟩ | ⟨q, e, h1, h2, h3, h4⟩
  · exact ⟨fun _ => h2, fun z => absurd h1 z⟩
  · refine ⟨fun z => by omega, fun _ => ?_⟩
    rw [h4]
    exact fun z => by cases z
theorem x_ri187 {nwe : nm9} {gm : gm9} {k T' : Nat} {v6 : Int} {E' : Eg9} {M9 : mM} (eE : E'.2 = txg M a N (s.1 ++ [nwe]) gm) (hRr : rcn s.1 = R) (h : Df M a g N T K R W C Z E tg) (hR : R < 60) (hk : k + 1 < N) (hT' : T' ≤ k + 20000) {e : Nat} (hTe : T' ≤ e) (hZe : Z ≤ e) (i6 : i32 v6) (L9 : Lc M9 a g N T' K) (I9 : iF M a g M9) (gI9 : mI M9 g = mI M g) (z30 : ln M9 (g + 30) = ln M (g + 30)) (z32 : ln M9 (g + 32) = ln M (g + 32)) (z34 : ln M9 (g + 34) = ln M (g + 34)) (h13 : mI M9 (g + 13) R = v6) (hD9 : mI M9 a 16 = 0 → Dg M9 g (R + 1) W C Z T' E' tg) (hwk : wk M a k = 3 ∨ wk M a k = 6) (hv6 : v6 = if wk M a k = 6 then 1 else 0) (hRS : RSq M9 a g K s.1) (h3 : lst3 M a M9) (hnew : fdn M a K (k + 1) = -1) (hst : s.2.1 = (W, R, C, if tg = -1 then 0 else 1)) (flt : mI M9 a 16 ≠ 0 → s'.2.2.1 ≠ 0 ∧ fpw M9 a s'.2.2) (good : mI M9 a 16 = 0 → s' = (s.1 ++ [nwe], (W, R + 1, C, if tg = -1 then 0 else 1), (0, 0)) ∧ nwe.1 = k + 1 ∧ nwe.2.1 = (if wk M a k = 3 then 1 else 2) ∧ nwe.2.2.1 = tn M9 g R ∧ (nwe.2.1 = 1 → nwe.2.2.2 = vr9 nwe.2.2.1 (mL M9 (g + 16) R) (mL M9 (g + 17) R))) : h_MM_ruleItem_187 G (d + 6) a k v6 R M9 (fun M' => mOk M' ∧ itX M a g N e s' gm M') := by
  obtain ⟨hL, ⟨g6, g12, g18, g17⟩, ⟨y30, y32, y34⟩, hK, hD⟩ := id h
  have hN := hL.2.1.1.2.2
  have hg := hL.2.2.2.2.2.1
  have hW := hD.1
  have w9 := L9.2.1.1.1
  have d9 : mR M9 a 10 = g := L9.2.2.2.2.1
  refine k_MM_ruleItem_187 L9.1 (i32s (by omega) (by omega)) i6 (i32s (by omega) (by omega)) ?_
  rw [d9]
  refine ⟨w9.1.1, (w9.gp hg).1, i32s (by omega) (by omega), fun M1 e1 v hv => ?_⟩
  have a0 := goff0 hg
  obtain ⟨m1, f1, l1⟩ := mv_cell (v := (R : Int) + 1) (i32s (by omega) (by omega)) L9.1 w9 (show a ≤ g by omega) ⟨a0.1, a0.2.1, a0.2.2.1⟩ e1
  have no : ∀ q : Nat, False → q ∈ nums a := fun _ z => z.elim
  have aI1 := (m1.fld w9 no (by omega)).1
  have g1 : ∀ i, mI M1 g i = if i = 6 then (R : Int) + 1 else mI M g i := fun i => by
    rw [f1]
    by_cases z : i = 6
    · rw [if_pos ⟨rfl, z⟩, if_pos z]
    · rw [if_neg (fun y => z y.2), if_neg z, gI9]
  have x6 : mI M1 g 6 = (R : Int) + 1 := by rw [g1, if_pos rfl]
  have x12 : mI M1 g 12 = W := by rw [g1, if_neg (by omega), g12]
  have L1 : Lc M1 a g N T' K := L9.mv m1 no (fun _ z => z.elim) (by rw [x6, gI9, g6]; omega) (by rw [x12, gI9, g12]; omega) ⟨by omega, by omega⟩ (fun r _ => by rw [f1, if_neg (fun z => by omega)])
  have I1 : iF M a g M1 := I9.trans (iF.mk w9 m1 (fun _ z => z.elim) (fun x z => Or.inr (Or.inl (by omega))) (fun i _ _ _ => by rw [aI1]))
  have w1 := m1.2.1
  have hK2 : K ≤ 72 := by omega
  have hv' : v = 1 ∨ v = 2 := by split at hv <;> omega
  refine (s_MM_know (d := d + 5) (u := (k : Int) + 1) (i32s (by omega) (by omega)) (i32s (by omega) (by omega)) (i32s (by omega) (by omega)) L1.1 w1 L1.2.2.1.1 L1.2.2.1.2.1 L1.2.2.1.2.2.1 (by omega)).mono (fun M2 t => ?_)
  obtain ⟨o2, m2, l2, p2, e2, s2, x2⟩ := t
  obtain ⟨L2, gI2, aI2⟩ := L1.kn (by omega) m2 l2 p2 e2 s2 x2 (by omega) (Or.inr ⟨hv', by omega, by omega⟩) (fun z => by
    rw [Int.toNat_natCast, f1, if_neg (fun y => by omega), h13]
    split at hv <;> omega)
  obtain ⟨G2, q30, q32, q34⟩ := ge_kn (R := R + 1) (W := W) (C := C) (Z := Z) (T := T') w1 hg m2
  have I2 : iF M a g M2 := I1.trans (iF.mk w1 m2 (fun q hq => knP_it hq) (fun _ z => z.elim) (fun i _ _ _ => by rw [aI2]))
  have no2 : ∀ q : Nat, ¬ False := fun _ z => z
  refine ⟨o2, o2, I2, ?_⟩
  have e16 : mI M2 a 16 = mI M9 a 16 := by rw [aI2, aI1]
  by_cases z16 : mI M2 a 16 = 0
  · have z9 : mI M9 a 16 = 0 := by rw [← e16]; exact z16
    obtain ⟨u1, u2, u3, u4, u5⟩ := good z9
    refine Or.inr ⟨by rw [u1], z16, T', K + 1, R + 1, W, C, Z, E', tg, ⟨L2, ⟨by rw [gI2, x6]; omega, by rw [gI2, x12], by rw [gI2, g1, if_neg (by omega), g18], by rw [gI2, g1, if_neg (by omega), g17]⟩, ⟨?_, ?_, ?_⟩, by omega, ?_⟩, ⟨hTe, hZe⟩, ?_, by rw [u1], ?_⟩
    · rw [q30, (m1.lst (n30 hg) (fun z => z)).1, z30, y30]
    · rw [q32, (m1.lst (n32 hg) (fun z => z)).1, z32, y32]
    · rw [q34, (m1.lst (n34 hg) (fun z => z)).1, z34, y34]
    · have D9 := hD9 (by rw [← e16]; exact z16)
      have G1 : Ge M9 g (R + 1) W C Z T' M1 := ge_mv w9 hg m1 no (fun z => z) (fun z => z) (fun z => z) (fun i i1 i2 (z : g + i = g) => by omega) (fun n _ => ⟨(m1.lst (tL_in (q := g + 1) hg (tLk1 g)) (fun z => z)).2.1 n, (m1.lst (tL_in (q := g + 7) hg (tLk7 g)) (fun z => z)).2.1 n, (m1.lst (tL_in (q := g + 9) hg (tLk9 g)) (fun z => z)).2.1 n, (m1.lst (tL_in (q := g + 11) hg (tLk11 g)) (fun z => z)).2.1 n, (m1.lst (tL_in (q := g + 3) hg (tLk3 g)) (fun z => z)).2.1 n⟩)
      exact (D9.ge G1).ge G2
    · have t1 : tn M1 g = tn M9 g := by
        funext v
        unfold tn
        rw [show mI M1 (g + 18) = mI M9 (g + 18) from funext (fun i => by rw [f1, if_neg (fun z => by omega)]), show mI M1 (g + 14) = mI M9 (g + 14) from funext (fun i => by rw [f1, if_neg (fun z => by omega)])]
      have c14 := m2.cellL w1 (fun q hq => knP_in hq) (goffx (i := 14) hg (by decide) (by decide)) (fun z => z)
      have c16 := m2.cellL w1 (fun q hq => knP_in hq) (goffx (i := 16) hg (by decide) (by decide)) (fun z => z)
      have c17 := m2.cellL w1 (fun q hq => knP_in hq) (goffx (i := 17) hg (by decide) (by decide)) (fun z => z)
      have c18 := m2.cellL w1 (fun q hq => knP_in hq) (goffx (i := 18) hg (by decide) (by decide)) (fun z => z)
      have t2 : tn M2 g = tn M1 g := by
        funext v
        unfold tn
        rw [c18.1, c14.1]
      have sx9 := I9.sx hL.2.1.1.1 hg
      have sx1 : SXq M9 a M1 := (iF.mk (g := g) w9 m1 (fun _ z => z.elim) (fun x z => Or.inr (Or.inl (by omega))) (fun i _ _ _ => by rw [aI1])).sx w9 hg
      have sx2 : SXq M1 a M2 := (iF.mk (g := g) w1 m2 (fun q hq => knP_it hq) (fun _ z => z.elim) (fun i _ _ _ => by rw [aI2])).sx w1 hg
      have l31 : lst3 M9 a M1 := lst3.of m1 (fun _ _ z => z)
      have RS1 : RSq M1 a g K s.1 := hRS.eq (l31.q K) t1 ⟨by rw [l1], by rw [l1]⟩ sx1
      rw [u1]
      refine RS1.kn (u := k + 1) p2 t2 ⟨c16.2, c17.2⟩ sx2 (by rw [e2]; omega) s2 x2 u2 ?_ (by rw [u3]; split <;> decide) ?_ (fun z => ?_) ?_ (fun z => absurd z (by omega)) (by rw [hRr, if_neg (by rw [u3]; split <;> decide)])
      · rw [u3, hv, hv6]
        rcases hwk with q | q
        · simp [q]
        · simp [q]
      · rw [u4, t1]
        rw [if_neg (by omega)]
      · rw [u5 z, l1, Int.toNat_natCast]
      · rw [l31.fd sx1, h3.fd sx9]
        exact hnew
    · rw [eE, u1, (I2.sx hL.2.1.1.1 hg).tx9]
  · obtain ⟨u1, u2⟩ := flt (by rw [← e16]; exact z16)
    refine Or.inl ⟨u1, ?_, ?_⟩
    · rw [e16]; exact u2.1
    · rw [show mI M2 a 17 = mI M9 a 17 by rw [aI2, aI1]]; exact u2.2
/-! what a const or formula comes to -/
theorem itr_many {w pl nq : Nat → Int} {sm : Nat → Nat → Prop} {k e : Nat} (h : s.2.1.2.1 = 60) : (itr w pl nq sm k e s).2.2 = (5, pl k) := by
  unfold itr
  rw [if_pos h]
theorem itr_known {w pl nq : Nat → Int} {sm : Nat → Nat → Prop} {k e : Nat} (h : s.2.1.2.1 ≠ 60) (h2 : fnd9 sm s.1 (k + 1) ≠ none) : (itr w pl nq sm k e s).2.2 = (2, pl (k + 1)) := by
  unfold itr
  rw [if_neg h, if_pos h2]
theorem itr_fl {w pl nq : Nat → Int} {sm : Nat → Nat → Prop} {k e : Nat} (h : s.2.1.2.1 ≠ 60) (h2 : fnd9 sm s.1 (k + 1) = none) (h3 : (fl w (E9 sm s.1 (if w k = 3 then 1 else 0)) pl 0 (k + 3) e).1 ≠ 0) : (itr w pl nq sm k e s).2.2 = fl w (E9 sm s.1 (if w k = 3 then 1 else 0)) pl 0 (k + 3) e := by
  unfold itr
  rw [if_neg h, if_neg (fun z => z h2), if_pos h3]
theorem itr_vl {w pl nq : Nat → Int} {sm : Nat → Nat → Prop} {k e : Nat} (h : s.2.1.2.1 ≠ 60) (h2 : fnd9 sm s.1 (k + 1) = none) (h3 : (fl w (E9 sm s.1 (if w k = 3 then 1 else 0)) pl 0 (k + 3) e).1 = 0) (hw : w k = 3) (h4 : (vlq w (cv9 w nq sm s.1) pl 0 0 (k + 3) e).1 ≠ 0) : (itr w pl nq sm k e s).2.2 = ((vlq w (cv9 w nq sm s.1) pl 0 0 (k + 3) e).1, (vlq w (cv9 w nq sm s.1) pl 0 0 (k + 3) e).2.1) := by
  unfold itr
  rw [if_neg h, if_neg (fun z => z h2), if_neg (fun z => z h3)]
  simp only [hw, if_true]
  rw [if_pos h4]
theorem itr_ok {w pl nq : Nat → Int} {sm : Nat → Nat → Prop} {k e : Nat} {v : vrs} (h : s.2.1.2.1 ≠ 60) (h2 : fnd9 sm s.1 (k + 1) = none) (h3 : (fl w (E9 sm s.1 (if w k = 3 then 1 else 0)) pl 0 (k + 3) e).1 = 0) (hv : v = if w k = 3 then vlq w (cv9 w nq sm s.1) pl 0 0 (k + 3) e else (0, 0, 1)) (h4 : v.1 = 0) : itr w pl nq sm k e s = (s.1 ++ [(k + 1, (if w k = 3 then 1 else 2), kdq w (E9 sm s.1 (if w k = 3 then 1 else 0)) 0 (k + 3) e, v)], (s.2.1.1, s.2.1.2.1 + 1, s.2.1.2.2), (0, 0)) := by
  unfold itr
  rw [if_neg h, if_neg (fun z => z h2), if_neg (fun z => z h3)]
  simp only [← hv]
  rw [if_neg (fun z => z h4)]
end RIX
end
section
/-! The reference's const and formula, exactly: the item. -/
section RIY
variable {G : mG} {d a g R W C Z T N K : Nat} {M : mM} {E : Eg9} {tg : Int} {s s' : st9}
theorem Lc.fdx {k : Nat} {Q : Int → mM → Prop} (h : Lc M a g N T K) (hk : k < N) (hQ : ∀ z : Int, -1 ≤ z → z < K → fdx M a K k z → Q z M) : Ci G y_MM_find (d + 3) [vr a, vi k] M Q := by
  refine (x_MM_find (d := d) h.1 h.2.1 h.2.2.1 hk).mono (fun z M1 e1 => ?_)
  obtain ⟨e1, z1, z2⟩ := e1
  subst e1
  exact hQ z z1.1 z1.2 z2
/-- the stores of a new rule leave all lists and the reader's own numbers alone -/
theorem ri_same {T' : Nat} {v6 x3 : Int} {M3 M4 M5 M6 : mM} (R2 : Lc M3 a g N T' K) (hR : mI M3 g 6 ≤ R) (i6 : i32 v6) (i3 : i32 x3) (iT : i32 (T : Int)) (e4 : M4 = mUI M3 (g + 13) R v6) (e5 : M5 = mUI M4 (g + 14) R x3) (e6 : M6 = mUI M5 (g + 15) R (T : Int)) : (∀ q, q ∈ nums a → sameN M3 M6 q) ∧ mI M6 a = mI M3 a := by
  obtain ⟨L4, -, ⟨-, aI4⟩, m4, -, -⟩ := gsti R2 (i := 13) i6 (by omega) (by decide) (by decide) (fun _ => hR) e4
  obtain ⟨L5, -, ⟨-, aI5⟩, m5, -, -⟩ := gsti L4 (i := 14) i3 (by omega) (by decide) (by decide) (fun z => by omega) e5
  obtain ⟨L6, -, ⟨-, aI6⟩, m6, -, -⟩ := gsti L5 (i := 15) iT (by omega) (by decide) (by decide) (fun z => by omega) e6
  exact ⟨fun q hq => ((m4.lst hq (fun z => z)).trans (m5.lst hq (fun z => z))).trans (m6.lst hq (fun z => z)), by rw [aI6, aI5, aI4]⟩
/-- a formula -/
theorem x_ri_f {gm : gm9} {k e T' f : Nat} {x3 v6 : Int} {M6 : mM} (h : Df M a g N T K R W C Z E tg) (hR : R < 60) (hk : k + 1 < N) (t1 : T < T') (hT' : T' ≤ k + 20000) (hTe : T' ≤ e + 1) (hZe : Z ≤ e + 1) (i6 : i32 v6) (z0 : v6 ≠ 0) (S6 : riS M a g N T K R W C Z T' f 0 v6 x3 M6) (hS : RSq M a g K s.1) (hst : s.2.1 = (W, R, C, if tg = -1 then 0 else 1)) (h3 : lst3 M a M6) (h16 : mI M6 a 16 = 0) (hw : wk M a k = 6) (hv6 : v6 = if wk M a k = 6 then 1 else 0) (hnew : fdn M a K (k + 1) = -1) (eγ : E.2 = txg M a N s.1 gm) (he6 : Eo (wk M a) 6 (k + 3) e) (hnx : nxq (wk M a) 34 N (k + 1) = e) (tm : Td (wk M a) (nt M (a + 7)) (nrq M a (rvn M a K)) (so M6 g) (pm M6 g) (va M6 g) (fp M6 g) (np M6 g) 0 0 (k + 3) e T T') (es : s' = (s.1 ++ [(k + 1, 2, x3, (0, 0, 1))], (W, R + 1, C, if tg = -1 then 0 else 1), (0, 0))) : h_MM_ruleItem_187 G (d + 6) a k v6 R M6 (fun M' => mOk M' ∧ itX M a g N (e + 1) s' gm M') := by
  obtain ⟨L6, I6, gI6, ⟨z30, z32, z34⟩, G6, c13, c15, tn6, ty6⟩ := S6
  have D6 := h.2.2.2.2.ge G6
  have hg := h.1.2.2.2.2.2.1
  have RS6 : RSq M6 a g K s.1 := hS.ge h.1.2.2.1 h.2.1.1 h.2.1.2.1 h.2.2.2.2.1.1 G6 (I6.sx h.1.2.1.1.1 hg) (h3.q K)
  have hRr : rcn s.1 = R := by
    have := D6.2.2.2.2.2.2.2.1.1
    rw [eγ] at this
    exact this
  have hrl : ∀ r : Nat, r < R → (if r = R then T' else E.1 r) = E.1 r := fun r hr => if_neg (by omega)
  have g9 : RGq (gWs E.2 (E.2.2.2.2.2.2.1 ++ [(k + 1, 2, x3, (0, 0, 1))]) E.2.2.2.2.2.2.2) M6 g (R + 1) W C Z T' (fun r => if r = R then T' else E.1 r) tg := by
    refine (D6.tu (Nat.le_of_lt t1)).2.2.2.2.2.2.2.ru hrl (by show (2 : Nat) ≠ 3; decide) (fun u => absurd (show (2 : Nat) = 1 from u) (by decide)) (fun _ => ⟨fun u => z0 (c13.symm.trans u), T, nrq M a (rvn M a K), c15, ?_, ?_, ?_⟩)
    · rw [eγ]
      show Eo (wk M a) 6 (k + 1 + 2) (nxq (wk M a) 34 N (k + 1))
      rw [hnx]
      exact he6
    · rw [eγ]
      exact hS.nvo
    · rw [eγ]
      show Td (wk M a) (nt M (a + 7)) (nrq M a (rvn M a K)) (so M6 g) (pm M6 g) (va M6 g) (fp M6 g) (np M6 g) 0 0 (k + 1 + 2) (nxq (wk M a) 34 N (k + 1)) T (if R = R then T' else E.1 R)
      rw [hnx, if_pos rfl]
      exact tm
  refine x_ri187 (nwe := (k + 1, 2, x3, (0, 0, 1))) (gm := gm) (by show gWs E.2 _ _ = _; rw [eγ]; rfl) hRr h hR hk hT' hTe hZe i6 L6 I6 gI6 (E' := (fun r => if r = R then T' else E.1 r, gWs E.2 (E.2.2.2.2.2.2.1 ++ [(k + 1, 2, x3, (0, 0, 1))]) E.2.2.2.2.2.2.2)) z30 z32 z34 c13 (fun y16 => ?_) (Or.inr hw) hv6 RS6 h3 hnew hst (fun z => absurd h16 z) (fun _ => ⟨es, rfl, by rw [if_neg (by omega)], tn6.symm, fun z => absurd z (by simp)⟩)
  refine (D6.tu (Nat.le_of_lt t1)).ru hR hrl g9 (fun z => absurd (c13.symm.trans z) z0) (fun _ => ⟨T, f, c15, by show (if R = R then T' else E.1 R) ≤ T'; rw [if_pos rfl]; exact Nat.le_refl _, fun r' hr' z' => ?_, ?_⟩)
  · show (if r' = R then T' else E.1 r') ≤ T
    rw [if_neg (by omega)]
    obtain ⟨n, f', -, q2, -⟩ := D6.2.2.1 r' hr' z'
    exact q2
  · show Ty (nme True M6 g R W) (tn M6 g) M6 g f 0 T (if R = R then T' else E.1 R) (fun _ => tn M6 g R)
    rw [if_pos rfl, tn6]
    exact ty6 True (fun _ => trivial)
/-- a constant -/
theorem x_ri_c {gm : gm9} {k e T' f : Nat} {co x3 v6 : Int} {M6 : mM} (h : Df M a g N T K R W C Z E tg) (hR : R < 60) (hk : k + 1 < N) (t1 : T < T') (hT' : T' ≤ k + 20000) (hT16 : T' ≤ 16384) (hTe : T' ≤ e + 1) (hZe : Z ≤ e + 1) (i6 : i32 v6) (z0 : v6 = 0) (hco : co ≠ 0) (S6 : riS M a g N T K R W C Z T' f co v6 x3 M6) (hS : RSq M a g K s.1) (hst : s.2.1 = (W, R, C, if tg = -1 then 0 else 1)) (h3 : lst3 M a M6) (h16 : mI M6 a 16 = 0) (hw : wk M a k = 3) (hv6 : v6 = if wk M a k = 6 then 1 else 0) (hnew : fdn M a K (k + 1) = -1) (he6 : Eo (wk M a) 6 (k + 3) e) (hfl : (fl (wk M a) (Ern M a g K 1) (nt M (a + 7)) 0 (k + 3) e).1 = 0) (tm : Td (wk M a) (nt M (a + 7)) (nrq M a (rvn M a K)) (so M6 g) (pm M6 g) (va M6 g) (fp M6 g) (np M6 g) 0 0 (k + 3) e T T') (eγ : E.2 = txg M a N s.1 gm) (es1 : ∀ v : vrs, v = vlq (wk M a) (cv9 (wk M a) (nuq M a) (smx M a) s.1) (nt M (a + 7)) 0 0 (k + 3) e → v.1 ≠ 0 → s'.2.2 = (v.1, v.2.1)) (es2 : ∀ v : vrs, v = vlq (wk M a) (cv9 (wk M a) (nuq M a) (smx M a) s.1) (nt M (a + 7)) 0 0 (k + 3) e → v.1 = 0 → s' = (s.1 ++ [(k + 1, 1, x3, v)], (W, R + 1, C, if tg = -1 then 0 else 1), (0, 0))) : Cv G y_MM_workOut (d + 6) [vr a, vr (mR M6 a 10), vi T] M6 (fun M63 => mOk M63 ∧ (mK M63 a = 14 ∧ mK M63 (mR M63 a 10) = 16 ∧ mK M63 (mR M63 a 21) = 33 ∧ ((0 : Int) ≤ 0 ∧ 0 < (mN M63 (mR M63 a 21) : Int)) ∧ mK M63 (mR M63 (mR M63 a 10) 10) = 33 ∧ ((0 : Int) ≤ R ∧ (R : Int) < (mN M63 (mR M63 (mR M63 a 10) 10) : Int)) ∧ ∀ M72, M72 = mUL M63 (mR M63 (mR M63 a 10) 10) R (mL M63 (mR M63 a 21) 0) → mK M72 (mR M72 a 10) = 16 ∧ mK M72 (mR M72 a 22) = 33 ∧ ((0 : Int) ≤ 0 ∧ 0 < (mN M72 (mR M72 a 22) : Int)) ∧ mK M72 (mR M72 (mR M72 a 10) 11) = 33 ∧ ((0 : Int) ≤ R ∧ (R : Int) < (mN M72 (mR M72 (mR M72 a 10) 11) : Int)) ∧ ∀ M79, M79 = mUL M72 (mR M72 (mR M72 a 10) 11) R (mL M72 (mR M72 a 22) 0) → h_MM_ruleItem_187 G (d + 6) a k v6 R M79 (fun M' => mOk M' ∧ itX M a g N (e + 1) s' gm M'))) := by
  obtain ⟨L6, I6, gI6, ⟨z30, z32, z34⟩, G6, c13, c15, tn6, ty6⟩ := S6
  have hg := L6.2.2.2.2.2.1
  have hD := h.2.2.2.2
  have hBd := hD.1
  have D6 := hD.ge G6
  have w6 := L6.2.1.1.1
  have EV : Ev False M6 a g R W T' := ⟨L6.1, w6, hg, L6.2.2.2.1, ⟨hBd.1, hBd.2.1, hT16⟩, fun r hr => ⟨D6.2.1 r hr, fun z => z.elim⟩, fun z => z.elim⟩
  rw [show mR M6 a 10 = g from L6.2.2.2.2.1]
  have sx6 := I6.sx h.1.2.1.1.1 hg
  have RS6 : RSq M6 a g K s.1 := hS.ge h.1.2.2.1 h.2.1.1 h.2.1.2.1 hBd.1 G6 sx6 (h3.q K)
  have ern6 : Ern M6 a g K 1 = Ern M a g K 1 := by rw [RS6.en (Or.inr rfl), hS.en (Or.inr rfl), sx6.sm]
  have nrq6 : nrq M6 a (rvn M6 a K) = nrq M a (rvn M a K) := by
    funext y
    unfold nrq
    rw [sx6.1, sx6.nv, h3.rv sx6]
  have vv : vlM M6 a g (nrq M6 a (rvn M6 a K)) (k + 3, e) = vlq (wk M a) (cv9 (wk M a) (nuq M a) (smx M a) s.1) (nt M (a + 7)) 0 0 (k + 3) e := by
    show vlq (wk M6 a) (cvq M6 a g (nrq M6 a (rvn M6 a K))) (nt M6 (a + 7)) 0 0 (k + 3) e = _
    rw [sx6.1, sx6.2.1]
    refine vl_cg0 (E := Ern M a g K 1) (fun y y1 y2 => ?_) he6 hfl
    rw [RS6.cv (by rw [sx6.1, ern6]; exact y2), sx6.1, sx6.nu, sx6.sm]
  refine (x_MM_workOut (d := d + 2) (nv := nrq M6 a (rvn M6 a K)) (b := R) (F := False) (fun z => z) EV (Nat.le_refl _) (by rw [sx6.1]; exact he6) (by rw [sx6.1, sx6.2.1, nrq6]; exact tm) (ty6 False (fun z => absurd z hco)) (Nat.le_refl _)).mono (fun M7 t7 => ?_)
  clear ty6 EV
  obtain ⟨o7, ⟨E7, v7⟩, x7⟩ := t7
  rw [vv] at x7
  generalize ev : vlq (wk M a) (cv9 (wk M a) (nuq M a) (smx M a) s.1) (nt M (a + 7)) 0 0 (k + 3) e = v9 at x7
  obtain ⟨L7, gI7, G7, q30, q32, q34⟩ := E7.lc (R := R) (W := W) (C := C) (Z := Z) L6
  have w7 := L7.2.1.1.1
  have d7 : mR M7 a 10 = g := L7.2.2.2.2.1
  rw [d7, show mR M7 a 21 = a + 97 from (w7.1.2.2.2.2.1.2.2.2.2.2.2).1, show mR M7 g 10 = g + 16 from (w7.gp hg).2.1.2.2.2.2.2.2.2.2.2.1]
  have b16 := (w7.gp hg).2.2.2.1.2.2.2.1
  refine ⟨o7, w7.1.1, (w7.gp hg).1, (w7.1.2.2.2.2.2.2.2.1).1.1, by rw [(w7.1.2.2.2.2.2.2.2.1).1.2]; decide, b16.1, by rw [b16.2]; omega, fun M8 e8 => ?_⟩
  obtain ⟨L8, I8, i8, m8, f8⟩ := gstl L7 (L7.1 _ _).2 (Or.inl rfl) e8
  have G8 := ge_sl (R := R) (W := W) (C := C) (Z := Z) (T := T') hg m8 f8 i8 (Nat.le_refl R)
  have w8 := L8.2.1.1.1
  have d8 : mR M8 a 10 = g := L8.2.2.2.2.1
  rw [d8, show mR M8 a 22 = a + 98 from (w8.1.2.2.2.2.1.2.2.2.2.2.2).2.1, show mR M8 g 11 = g + 17 from (w8.gp hg).2.1.2.2.2.2.2.2.2.2.2.2]
  have b17 := (w8.gp hg).2.2.2.1.2.2.2.2
  refine ⟨(w8.gp hg).1, (w8.1.2.2.2.2.2.2.2.1).2.1.1, by rw [(w8.1.2.2.2.2.2.2.2.1).2.1.2]; decide, b17.1, by rw [b17.2]; omega, fun M9 e9 => ?_⟩
  obtain ⟨L9, I9, i9, m9, f9⟩ := gstl L8 (L8.1 _ _).2 (Or.inr rfl) e9
  have G9 := ge_sl (R := R) (W := W) (C := C) (Z := Z) (T := T') hg m9 f9 i9 (Nat.le_refl R)
  have h813 : mI M9 (g + 13) R = v6 := by rw [i9, i8, (E7.gs w6).1, c13]
  have t9 : tn M9 g R = x3 := by
    rw [← tn6]
    unfold tn
    rw [if_neg (show ¬ (100 : Int) ≤ (R : Int) by omega), if_neg (show ¬ (100 : Int) ≤ (R : Int) by omega), i9, i8, (E7.gs w6).2.1]
  have a9 : mL M9 (g + 16) R = mL M7 (a + 97) 0 := by rw [f9, if_neg (fun z => by omega), f8, if_pos ⟨rfl, rfl⟩]
  have b9 : mL M9 (g + 17) R = mL M8 (a + 98) 0 := by rw [f9, if_pos ⟨rfl, rfl⟩]
  have b8 : mL M8 (a + 98) 0 = mL M7 (a + 98) 0 := by rw [f8, if_neg (fun z => by omega)]
  have I69 := ((I6.trans (E7.it w6)).trans I8).trans I9
  have l39 : lst3 M a M9 := ((h3.trans (lst3.of E7.1 (fun i hi => by omega))).trans (lst3.of m8 (fun _ _ z => z))).trans (lst3.of m9 (fun _ _ z => z))
  have RS9 : RSq M9 a g K s.1 := hS.ge h.1.2.2.1 h.2.1.1 h.2.1.2.1 hBd.1 (((G6.trans (G7.down (Nat.le_refl _) (Nat.le_refl _) (Nat.le_refl _) (Nat.le_refl _) (Nat.le_of_lt t1))).trans (G8.down (Nat.le_refl _) (Nat.le_refl _) (Nat.le_refl _) (Nat.le_refl _) (Nat.le_of_lt t1))).trans (G9.down (Nat.le_refl _) (Nat.le_refl _) (Nat.le_refl _) (Nat.le_refl _) (Nat.le_of_lt t1))) (I69.sx h.1.2.1.1.1 hg) (l39.q K)
  have x79 : (v9.1 ≠ 0 ∧ mI M9 a 16 = v9.1 ∧ mI M9 a 17 = v9.2.1) ∨ (mI M9 a 16 = 0 ∧ v9 = vr9 x3 (mL M7 (a + 97) 0) (mL M7 (a + 98) 0)) := by
    rw [i9, i8]
    rcases x7 with q | q | q
    · exact absurd h16 q
    · exact Or.inl q
    · exact Or.inr q
  have hRr : rcn s.1 = R := by
    have := D6.2.2.2.2.2.2.2.1.1
    rw [eγ] at this
    exact this
  refine x_ri187 (nwe := (k + 1, 1, x3, v9)) (gm := gm) (by show gWs E.2 _ _ = _; rw [eγ]; rfl) hRr h hR hk hT' hTe hZe i6 L9 I69 (by rw [i9, i8, gI7, gI6]) (E' := (E.1, gWs E.2 (E.2.2.2.2.2.2.1 ++ [(k + 1, 1, x3, v9)]) E.2.2.2.2.2.2.2)) ?_ ?_ ?_ h813 (fun y16 => ?_) (Or.inl hw) hv6 RS9 l39 hnew hst (fun z => ?_) (fun z => ?_)
  rotate_left 4
  · rcases x79 with ⟨q1, q2, q3⟩ | ⟨q, -⟩
    · have := es1 v9 ev.symm q1
      rw [this]
      exact ⟨q1, q2, q3⟩
    · exact absurd q z
  · rcases x79 with ⟨q1, q2, -⟩ | ⟨-, q⟩
    · rw [z] at q2; exact absurd q2.symm q1
    · refine ⟨es2 v9 ev.symm (by rw [q]; rfl), rfl, by rw [if_pos hw], t9.symm, fun _ => ?_⟩
      show v9 = vr9 x3 _ _
      rw [q, a9, b9, b8]
  · rw [(m9.lst (n30 hg) (fun z => z)).1, (m8.lst (n30 hg) (fun z => z)).1, q30, z30]
  · rw [(m9.lst (n32 hg) (fun z => z)).1, (m8.lst (n32 hg) (fun z => z)).1, q32, z32]
  · rw [(m9.lst (n34 hg) (fun z => z)).1, (m8.lst (n34 hg) (fun z => z)).1, q34, z34]
  · rw [i9, i8] at y16
    rcases v7 with y | ⟨-, v7⟩
    · exact absurd y16 y
    have D9 := ((((D6.tu (Nat.le_of_lt t1)).ge G7).ge G8).ge G9)
    refine D9.ru hR (fun _ _ => rfl) (D9.2.2.2.2.2.2.2.ru (fun _ _ => rfl) (by show (1 : Nat) ≠ 3; decide) (fun _ => ⟨h813.trans z0, ?_⟩) (fun u => absurd (show (1 : Nat) = 2 from u) (by decide))) (fun _ => ?_) (fun z => absurd (h813.trans z0) z)
    · show v9 = vr9 (tn M9 g R) _ _
      rcases x79 with ⟨q1, q2, -⟩ | ⟨-, q⟩
      · rw [i9, i8, y16] at q2
        exact absurd q2.symm q1
      · rw [q, t9, a9, b9, b8]
    · rw [t9, a9, b9, b8]
      exact v7
theorem x_MM_ruleItem {gm : gm9} {k e : Nat} (eγ : E.2 = txg M a N s.1 gm) (hnx : nxq (wk M a) 34 N (k + 1) = e) (h : Df M a g N T K R W C Z E tg) (hS : RSq M a g K s.1) (hst : s.2.1 = (W, R, C, if tg = -1 then 0 else 1)) (h16 : mI M a 16 = 0) (hw : wk M a k = 3 ∨ wk M a k = 6) (he6 : Eo (wk M a) 6 (k + 3) e) (he : e < N) (hT : T ≤ k) (hZ : Z ≤ k) : Cv G y_MM_ruleItem (d + 7) [vr a, vi k, vi e] M (fun M' => mOk M' ∧ itX M a g N (e + 1) (itr (wk M a) (nt M (a + 7)) (nuq M a) (smx M a) k e s) gm M') := by
  generalize es : itr (wk M a) (nt M (a + 7)) (nuq M a) (smx M a) k e s = s'
  obtain ⟨hL, ⟨g6, g12, g18, g17⟩, ⟨y30, y32, y34⟩, hK, hD⟩ := id h
  obtain ⟨hO, hx, hnm, hd, h10, hg, hB, -⟩ := id hL
  have w := hx.1.1
  have hN := hx.1.2.2
  have hke := he6.pr.1
  have hBd := hD.1
  refine k_MM_ruleItem hO (i32s (by omega) (by omega)) (i32s (by omega) (by omega)) ⟨w.1.1, hL.wd (d := d + 5) (by omega) (fun x hx0 ix => ⟨ix, hO, fun v6 hv6 => ⟨w.1.1, ?_⟩⟩)⟩
  have c6 : v6 = 0 ∨ v6 = 1 := by split at hv6 <;> omega
  have hv6' : v6 = if wk M a k = 6 then 1 else 0 := by
    rw [hx0] at hv6
    rw [hv6]
  clear hv6
  rw [h10, g6]
  refine ⟨(w.gp hg).1, fun q => x_st_it (d := d + 5) (c := 5) (by decide) ⟨by decide, by decide⟩ hL (by omega) (by rw [← es]; exact itr_many (by rw [hst]; show R = 60; omega)), fun q => ?_⟩
  have n60 : s.2.1.2.1 ≠ 60 := by rw [hst]; show R ≠ 60; omega
  have hR : R < 60 := by omega
  rw [show (k : Int) + 1 = ((k + 1 : Nat) : Int) by first | rfl | omega, show (k : Int) + 3 = ((k + 3 : Nat) : Int) by first | rfl | omega]
  refine hL.fdx (d := d + 3) (by omega) (fun r r0 r1 rf => ⟨i32s (by omega) (by omega), hO, fun q2 => ⟨w.1.1, ?_⟩, fun q2 => ⟨w.1.1, x_st_it (d := d + 5) (c := 2) (by decide) ⟨by decide, by decide⟩ hL (by omega) (by rw [← es]; exact itr_known n60 ((hS.kw rf).2 (by omega)))⟩⟩)
  have hnone := (hS.kw rf).1 (by omega)
  have hnew : fdn M a K (k + 1) = -1 := by rw [← fdn_un rf]; omega
  rw [h10, g6]
  refine ⟨(w.gp hg).1, ?_⟩
  clear r0 r1 q2
  refine (x_MM_tree (d := d) hO hx hg h10 hd he6 he (by omega)).mono (fun r2 M2 t => ?_)
  obtain ⟨tt1, tt2, T9, tt3, tt4, tt5, tt6, tt7, tt8, tt9⟩ := t
  obtain ⟨er, T', t1, t2, L2, t3, e2, m2, s2⟩ := tr_lc hL (by omega) ⟨tt1, tt2, T9, tt3, tt4, tt5, tt6, tt7, tt9⟩
  have eT : T9 = T' := by
    have q1 := tt3 (g + 1) (by first | exact tLk1 g | exact gLk1 g | omega)
    have q2 := L2.2.2.2.1 (g + 1) (by first | exact tLk1 g | exact gLk1 g | omega)
    omega
  subst eT
  obtain ⟨k1, k2, k3, k4, k5, k6⟩ := tr_same (K := K) hg w tt1
  subst er
  have w2 := L2.2.1.1.1
  refine ⟨i32s (by omega) (by omega), L2.1, fun v33 hv33 => ⟨w2.1.1, (x_MM_look (d := d) (co := v33) (trlk (ur_n (M := M) (a := a) (g := g) (N := N) (K := K) (co := v33)) hg w L2 tt1 e2.2.2.2) (i32s (by split at hv33 <;> omega) (by split at hv33 <;> omega)) (nm := nmw (wk M a) N) (fun v hv => ⟨⟨hv.1, hv.2.1⟩, by rw [k1]; exact hv.2.2⟩) (by rw [k1]; exact he6) (tm_self k1 k2 k3 tt8.1) L2 t3 (Nat.le_refl _)).mono (fun x3 M3 q0 => ?_)⟩⟩
  obtain ⟨q3, qx⟩ := q0
  have Rl := tl_rl hL L2 e2 m2 s2 q3
  rw [k1, k2, show mI M2 a = mI M a from e2.1] at qx
  have w2' := w2
  have hv33' : v33 = if wk M a k = 3 then 1 else 0 := by
    rw [hv6'] at hv33
    rw [hv33]
    rcases hw with q | q
    · rw [if_pos q]
      simp [q]
    · rw [if_neg (by omega)]
      simp [q]
  have c33 : v33 = 0 ∨ v33 = 1 := by rw [hv33']; split <;> simp
  have enE := hS.en (co := v33) c33
  rw [enE, hv33'] at qx
  have tmr : mI M3 a 16 = 0 → Tmr M M3 a g (rvn M a K) (k + 3) e T T9 := fun z => by
    rcases qx with q | ⟨q, -⟩ | ⟨-, -, -, qv⟩
    · exact absurd h16 q
    · exact absurd z q
    · exact tm_rs hg w tt1 w2' q3.1 he6 tt8.1 qv
  have l33 : lst3 M a M3 := lst3.of Rl.1 (fun i hi z => by
    have z' : ((a + i = g + 1 ∨ a + i = g + 3 ∨ a + i = g + 5 ∨ a + i = g + 7 ∨ a + i = g + 9 ∨ a + i = g + 11) ∨ a + i = a + 91) ∨ (a + i = a + 93 ∨ a + i = a + 95 ∨ a + i = g + 7) := z
    first | exact l33z hg hi z' | omega)
  have hpm : ∀ n, n < T → pm M3 g n = pm M g n := fun n hn => (q3.1.pm w2' n).trans (tt8.2 n hn)
  clear q3 s2 m2 e2 t3 tt8 tt9 tt7 tt6 tt3 k4
  have I3 := (rlR.ge (R := R) (W := W) (C := C) (Z := Z) hL Rl).1
  have R2 := Rl.2.1
  have R5 := Rl.2.2.2.2.1
  have w3 := R2.2.1.1.1
  have hb1 : T9 ≤ k + 20000 := by omega
  have hb2 : T9 ≤ 16384 := by omega
  have hb3 : T9 ≤ e + 1 := by omega
  have hb4 : Z ≤ e + 1 := by omega
  have hk1 : k + 1 < N := by omega
  have i6 : i32 v6 := i32s (by omega) (by omega)
  have ix3 : i32 x3 := i32s (by omega) (by omega)
  have R60 : ((0 : Int) ≤ R ∧ (R : Int) < ((60 : Nat) : Int)) := by omega
  clear hB hBd hke hN t2 hd hnm y30 y32 y34 hK
  refine ⟨ix3, R2.1, w3.1.1, fun z16 => ?_, fun z16 => ⟨R2.1, I3, Or.inl ?_⟩⟩
  rotate_left
  · rcases qx with q | ⟨q, qf⟩ | ⟨q, -⟩
    · exact absurd h16 q
    · have fz : (fl (wk M a) (E9 (smx M a) s.1 (if wk M a k = 3 then 1 else 0)) (nt M (a + 7)) 0 (k + 3) e).1 ≠ 0 := by rw [← qf.1]; exact q
      rw [← es, itr_fl n60 hnone fz]
      exact ⟨fz, qf⟩
    · exact absurd q z16
  obtain ⟨hfl, hx3⟩ : (fl (wk M a) (E9 (smx M a) s.1 (if wk M a k = 3 then 1 else 0)) (nt M (a + 7)) 0 (k + 3) e).1 = 0 ∧ x3 = kdq (wk M a) (E9 (smx M a) s.1 (if wk M a k = 3 then 1 else 0)) 0 (k + 3) e := by
    rcases qx with q | ⟨q, -⟩ | ⟨-, q1, q2, -⟩
    · exact absurd h16 q
    · exact absurd z16 q
    · exact ⟨q1, q2⟩
  have tmr := tmr z16
  have g63 : mI M3 g 6 ≤ R := by rw [Rl.2.2.2.1, g6]; omega
  rw [show mR M3 a 10 = g from R2.2.2.2.2.1, show mR M3 g 7 = g + 13 from (w3.gp hg).2.1.2.2.2.2.2.2.1, Int.toNat_natCast]
  have b13 := (w3.gp hg).2.2.2.1.1
  refine ⟨(w3.gp hg).1, b13.1, by rw [b13.2]; exact R60, fun M4 e4 => ?_⟩
  have La := fun M5 M6 e5 e6 => ri_a (M5 := M5) (M6 := M6) h hR t1 Rl z16 hpm c6 e4 e5 e6
  have L4 := (La _ _ rfl rfl).2.1
  have w4 := L4.2.1.1.1
  rw [show mR M4 a 10 = g from L4.2.2.2.2.1, show mR M4 g 8 = g + 14 from (w4.gp hg).2.1.2.2.2.2.2.2.2.1]
  have b14 := (w4.gp hg).2.2.2.1.2.1
  refine ⟨(w4.gp hg).1, b14.1, by rw [b14.2]; exact R60, R5, fun M5 e5 => ?_⟩
  have L5 := (La M5 _ e5 rfl).2.2
  have w5 := L5.2.1.1.1
  rw [show mR M5 a 10 = g from L5.2.2.2.2.1, show mR M5 g 9 = g + 15 from (w5.gp hg).2.1.2.2.2.2.2.2.2.2.1]
  have b15 := (w5.gp hg).2.2.2.1.2.2.1
  refine ⟨(w5.gp hg).1, b15.1, by rw [b15.2]; exact R60, fun M6 e6 => ?_⟩
  obtain ⟨f, S6⟩ := (La M5 M6 e5 e6).1
  obtain ⟨sm6, aI6⟩ := ri_same R2 g63 i6 ix3 (i32s (by omega) (by omega)) e4 e5 e6
  have z16' : mI M6 a 16 = 0 := by rw [aI6]; exact z16
  have l36 : lst3 M a M6 := l33.trans ⟨sm6 _ n85, sm6 _ n87, sm6 _ n89⟩
  have tm6 : Td (wk M a) (nt M (a + 7)) (nrq M a (rvn M a K)) (so M6 g) (pm M6 g) (va M6 g) (fp M6 g) (np M6 g) 0 0 (k + 3) e T T9 := tmr.cg (Or.inl ⟨rfl, he6⟩) (fun y _ _ => ⟨(sm6 _ (tL_in (q := g + 1) hg (tLk1 g))).2.1 y, (sm6 _ (tL_in (q := g + 3) hg (tLk3 g))).2.1 y, (sm6 _ (tL_in (q := g + 7) hg (tLk7 g))).2.1 y, (sm6 _ (tL_in (q := g + 9) hg (tLk9 g))).2.1 y⟩) (fun y _ _ => (sm6 _ (tL_in (q := g + 11) hg (tLk11 g))).2.1 y) (fun u => absurd u (by decide))
  refine ⟨fun z0 => ?_, fun z0 => ?_⟩
  · have w3k : wk M a k = 3 := by
      rcases hw with q | q
      · exact q
      · rw [if_pos q] at hv6'; omega
    rw [w3k, if_pos rfl] at hfl hx3
    refine x_ri_c h hR hk1 t1 hb1 hb2 hb3 hb4 i6 z0 (by rw [hv33', if_pos w3k]; decide) S6 hS hst l36 z16' w3k hv6' hnew he6 (by rw [hS.en (Or.inr rfl)]; exact hfl) tm6 eγ (fun v ev v1 => ?_) (fun v ev v1 => ?_)
    · rw [← es, ev]
      exact itr_vl n60 hnone (by rw [w3k, if_pos rfl]; exact hfl) w3k (by rw [← ev]; exact v1)
    · rw [← es, itr_ok (v := v) n60 hnone (by rw [w3k, if_pos rfl]; exact hfl) (by rw [w3k, if_pos rfl]; exact ev) v1, hst, w3k, if_pos rfl, if_pos rfl, ← hx3]
  · have w6k : wk M a k = 6 := by
      rcases hw with q | q
      · rw [if_neg (by omega)] at hv6'; exact absurd hv6' z0
      · exact q
    have v0 : v33 = 0 := by rw [hv33', if_neg (by omega)]
    rw [v0] at S6
    refine x_ri_f h hR hk1 t1 hb1 hb3 hb4 i6 z0 S6 hS hst l36 z16' w6k hv6' hnew eγ he6 hnx tm6 ?_
    have n3 : ¬ wk M a k = 3 := by omega
    rw [← es, itr_ok (v := (0, 0, 1)) n60 hnone hfl (by rw [if_neg n3]) rfl, hst, ← hx3, if_neg n3]
end RIY
end
section
/-! The reference's vars, exactly: whole numbers, first values. -/
section VIX
variable {G : mG} {d a g R W C Z T N K : Nat} {M M2 M3 : mM} {E : Eg9} {nv : Nat → Int}
/-- a rule made of constants alone, and which words it stands for -/
def Ctx (M : mM) (a g R W T : Nat) (nv : Nat → Int) (i j n : Nat) (t : Int) : Prop := Eo (wk M a) 6 i j ∧ ∃ f e : Nat, Ty (nme False M g R W) (tn M g) M g f 0 n e (fun _ => t) ∧ e ≤ T ∧ Td (wk M a) (nt M (a + 7)) nv (so M g) (pm M g) (va M g) (fp M g) (np M g) 0 0 i j n e
theorem Ctx.gn {i j n : Nat} {t : Int} (h : Ctx M a g R W T nv i j n t) (k : Gn M g R W T M2) (hR : R ≤ 60) (sx : SXq M a M2) (hp : ∀ n, n < T → pm M2 g n = pm M g n) : Ctx M2 a g R W T nv i j n t := by
  obtain ⟨eo, f, e, h1, h2, h3⟩ := h
  refine ⟨by rw [sx.1]; exact eo, f, e, (h1.mono (nm' := nme False M2 g R W) (w' := tn M2 g) (fun v hv => ⟨k.nm (Nat.le_refl _) hv, k.tnm hR hv.wk (Nat.le_refl _)⟩)).fr (fun n _ n2 => ⟨(k.1 n (by omega)).1, (k.1 n (by omega)).2.1, (k.1 n (by omega)).2.2.1⟩) (fun n _ n2 => (k.1 n (by omega)).2.2.2.1) (fun z => absurd rfl z), h2, ?_⟩
  rw [sx.1, sx.2.1]
  exact h3.cg (Or.inl ⟨rfl, eo⟩) (fun x _ x2 => ⟨(k.1 x (by omega)).1, hp x (by omega), (k.1 x (by omega)).2.1, (k.1 x (by omega)).2.2.1⟩) (fun x _ x2 => (k.1 x (by omega)).2.2.2.1) (fun u => absurd u (by decide))
theorem Ctx.up {i j n T' : Nat} {t : Int} (h : Ctx M a g R W T nv i j n t) (hT : T ≤ T') : Ctx M a g R W T' nv i j n t := by
  obtain ⟨eo, f, e, h1, h2, h3⟩ := h
  exact ⟨eo, f, e, h1, by omega, h3⟩
/-- what a whole number comes to -/
def whX (M : mM) (a g : Nat) (nv : Nat → Int) (i j wd : Nat) (x : Int) (M' : mM) : Prop := ((wh9 (vlM M a g nv (i, j)) (nt M (a + 7) wd)).1 ≠ 0 ∧ fpw M' a (wh9 (vlM M a g nv (i, j)) (nt M (a + 7) wd))) ∨ ((wh9 (vlM M a g nv (i, j)) (nt M (a + 7) wd)).1 = 0 ∧ mI M' a 16 = 0 ∧ x = (vlM M a g nv (i, j)).2.1)
theorem x_MM_wholeOf {n wd i j : Nat} (hL : Lc M a g N T K) (h : Ev False M a g R W T) (ht : Ctx M a g R W T nv i j n 0) (hwd : wd < N) : Ci G y_MM_wholeOf (d + 5) [vr a, vi n, vi wd] M (fun x M' => i32 x ∧ mOk M' ∧ EO False M a g R W T M' ∧ (mI M' a 16 = 0 → mI M a 16 = 0 ∧ -1000000000 < x ∧ x < 1000000000) ∧ (mI M a 16 = 0 → whX M a g nv i j wd x M') ∧ (mI M a 16 ≠ 0 → M' = M)) := by
  obtain ⟨eo, f, e, ht, he, tm⟩ := ht
  have w := h.2.1
  have hN := hL.2.1.1.2.2
  have hlt := ht.tn.lt
  have hB := h.2.2.2.2.1
  refine k_MM_wholeOf2 h.1 (i32s (by omega) (by omega)) (i32s (by omega) (by omega)) ⟨w.1.1, fun z16 => ?_, fun z16 => ⟨⟨by omega, by omega⟩, h.1, EO.refl h, fun q => absurd q z16, fun q => absurd q z16, fun _ => rfl⟩⟩
  rw [show mR M a 10 = g from hL.2.2.2.2.1]
  refine (x_MM_workOut (d := d) (b := R) (F := False) (fun z => z) h (Nat.le_refl _) eo tm ht he).mono (fun M4 t4 => ?_)
  obtain ⟨o4, ⟨E4, v4⟩, x4⟩ := t4
  generalize ev : vlM M a g nv (i, j) = v9 at x4
  have cz := (cmpz (mL M4 (a + 98) 0) 1).2.2.2.1
  have w4 := E4.1.2.1
  have L4 := (E4.lc (R := R) (W := W) (C := 0) (Z := 0) hL).1
  rw [show mR M4 a 22 = a + 98 from (w4.1.2.2.2.2.1.2.2.2.2.2.2).2.1, show mR M4 a 21 = a + 97 from (w4.1.2.2.2.2.1.2.2.2.2.2.2).1]
  refine ⟨o4, w4.1.1, fun _ => ⟨(w4.1.2.2.2.2.2.2.2.1).2.1.1, by rw [(w4.1.2.2.2.2.2.2.2.1).2.1.2]; omega⟩, fun q => ⟨(w4.1.2.2.2.2.2.2.2.1).1.1, by rw [(w4.1.2.2.2.2.2.2.2.1).1.2]; omega, i32_w32, o4, E4, fun y16 => ⟨z16, ?_⟩, fun _ => ?_, fun q => absurd z16 q⟩, fun q => ?_⟩
  · rcases v4 with y | ⟨-, y⟩
    · exact absurd y16 y
    · unfold vok at y
      rw [w32_id ⟨by omega, by omega⟩]
      omega
  · unfold whX wh9
    rw [ev]
    rcases x4 with y | y | ⟨y16, y⟩
    · exact absurd z16 y
    · rw [if_pos y.1]
      exact Or.inl ⟨y.1, y.2.1, y.2.2⟩
    · have v0 : vok 0 (mL M4 (a + 97) 0) (mL M4 (a + 98) 0) := by
        rcases v4 with y | ⟨-, y⟩
        · exact absurd y16 y
        · exact y
      unfold vok at v0
      have b1 : mL M4 (a + 98) 0 = 1 := by
        rcases q with q | q
        · exact absurd y16 q
        · exact cz.mp q
      rw [y]
      unfold vr9
      rw [if_neg (by simp), if_neg (by rw [b1]; simp)]
      refine Or.inr ⟨rfl, y16, ?_⟩
      rw [w32_id ⟨by omega, by omega⟩]
  · refine (s_MM_place0 (d := d + 3) o4 L4.2.1 hwd).mono (fun y M5 h5 => ?_)
    obtain ⟨e5, hy⟩ := h5
    subst e5
    have hy32 : i32 y := by rw [hy]; exact (o4 _ _).1
    refine ⟨hy32, o4, w4.1.1, (s_MM_stop ⟨by omega, by omega⟩ hy32 o4 w4).mono (fun M6 h6 => ?_)⟩
    obtain ⟨m6, f1, f2, f3⟩ := h6
    have w6 := m6.2.1
    rw [show mR M6 a 21 = a + 97 from (w6.1.2.2.2.2.1.2.2.2.2.2.2).1]
    refine ⟨m6.1, w6.1.1, (w6.1.2.2.2.2.2.2.2.1).1.1, by rw [(w6.1.2.2.2.2.2.2.2.1).1.2]; omega, i32_w32, m6.1, E4.step m6 (fun _ z => z.elim) (fun x z => Or.inl z) (fun i i1 i2 _ => f3 i i1 i2), fun q => by rw [f1] at q; exact absurd q (by decide), fun _ => ?_, fun q => absurd z16 q⟩
    have y16 : mI M5 a 16 = 0 := Classical.byContradiction (fun z => q (Or.inl z))
    have b1 : mL M5 (a + 98) 0 ≠ 1 := fun z => q (Or.inr (cz.mpr z))
    unfold whX wh9
    rw [ev]
    rcases x4 with y | y | ⟨-, y⟩
    · exact absurd z16 y
    · rw [y.2.1] at y16; exact absurd y16 y.1
    · rw [y]
      unfold vr9
      rw [if_neg (by simp), if_pos (by show (if (0 : Int) = 1 then (1 : Int) else mL M5 (a + 98) 0) ≠ 1; rw [if_neg (by decide)]; exact b1)]
      have p7 : nt M5 (a + 7) wd = nt M (a + 7) wd := (E4.1.lst n7 (by omega)).2.1 wd
      exact Or.inl ⟨by simp, f1, by rw [f2, hy, p7]⟩
end VIX
end
section
/-! The reference's vars, exactly: first values, and what is kept inside a var. -/
section VXA
variable {G : mG} {d a g R W C Z T T2 T3 N K : Nat} {M M2 M3 : mM} {E : Eg9} {tg bl : Int} {s s' : st9} {nv : Nat → Int}
/-- the fault of a first value -/
def bef (bl lo hi p : Int) (x : vrs) : Int × Int := if bl ≠ 0 then wh9 x p else fst9 (wh9 x p) (if lo ≤ x.2.1 ∧ x.2.1 ≤ hi then (0, 0) else (9, p))
/-- a first value is told, or its fault -/
def beX (M : mM) (a g R W T v : Nat) (V : vrs) (b : Int × Int) (M' : mM) : Prop := ∃ (M1 : mM) (x : Int), EO False M a g R W T M1 ∧ i32 x ∧ M' = mUI M1 (g + 21) v x ∧ (mI M1 a 16 = 0 → (mI M (g + 18) v = 0 → mI M (g + 19) v ≤ x ∧ x ≤ mI M (g + 20) v) ∧ (mI M (g + 18) v ≠ 0 → 0 ≤ x ∧ x ≤ 1)) ∧ ((b.1 ≠ 0 ∧ fpw M1 a b) ∨ (b.1 = 0 ∧ mI M1 a 16 = 0 ∧ x = V.2.1))
theorem x_MM_begins {n wd v i j : Nat} {t : Int} (hL : Lc M a g N T K) (h : Ev False M a g R W T) (h16 : mI M a 16 = 0) (ht : Ctx M a g R W T nv i j n t) (hv : v < 12) (ht1 : mI M (g + 18) v ≠ 0 → t = 1) (ht0 : mI M (g + 18) v = 0 → t = 0) (hwd : wd < N) : Cv G y_MM_begins (d + 6) [vr a, vi v, vi n, vi wd] M (fun M' => mOk M' ∧ beX M a g R W T v (vlM M a g nv (i, j)) (bef (mI M (g + 18) v) (mI M (g + 19) v) (mI M (g + 20) v) (nt M (a + 7) wd) (vlM M a g nv (i, j))) M') := by
  obtain ⟨eo, f, e, hty, he, tm⟩ := id ht
  have w := h.2.1
  have hg := h.2.2.1
  have hN := hL.2.1.1.2.2
  have hlt := hty.tn.lt
  have hB := h.2.2.2.2.1
  have hin : ∀ q, q = a + 99 → q ∈ nums a := fun q hq => by rw [hq]; exact n99
  have keep : ∀ (M1 : mM) (i : Nat), EO False M a g R W T M1 → i ≤ 29 → frO (13 + i) → frO (49 + i) → mI M1 (g + i) = mI M (g + i) := fun M1 i k i1 f1 f2 => (k.1.cellL w hin (goffx hg f1 f2) (fun z => by
    have : g + i = a ∨ g + i = a + 97 ∨ g + i = a + 98 ∨ g + i = a + 102 ∨ g + i = a + 103 ∨ g + i = a + 104 := z
    omega)).1
  refine k_MM_begins2 h.1 (i32s (by omega) (by omega)) (i32s (by omega) (by omega)) (i32s (by omega) (by omega)) ?_
  have b13 := (w.gp hg).2.2.2.2.1.1
  rw [show mR M a 10 = g from hL.2.2.2.2.1, show mR M g 13 = g + 18 from (w.gp hg).2.2.1.1, Int.toNat_natCast]
  refine ⟨w.1.1, (w.gp hg).1, b13.1, by rw [b13.2]; omega, fun z0 => ?_, fun z0 => ?_⟩
  · have t0 := ht0 z0
    subst t0
    refine (x_MM_wholeOf (d := d) hL h ht hwd).mono (fun x M7 t7 => ?_)
    obtain ⟨ix, o7, E7, v7, x7, -⟩ := t7
    have x7 := x7 h16
    unfold whX at x7
    generalize vlM M a g nv (i, j) = v9 at x7 ⊢
    have bz : bef (mI M (g + 18) v) (mI M (g + 19) v) (mI M (g + 20) v) (nt M (a + 7) wd) v9 = fst9 (wh9 v9 (nt M (a + 7) wd)) (if mI M (g + 19) v ≤ v9.2.1 ∧ v9.2.1 ≤ mI M (g + 20) v then (0, 0) else (9, nt M (a + 7) wd)) := if_neg (fun z => z z0)
    rw [bz]
    have w7 := E7.1.2.1
    have L7 := (E7.lc (R := R) (W := W) (C := 0) (Z := 0) hL).1
    have b14 := (w7.gp hg).2.2.2.2.1.2.1
    have b15 := (w7.gp hg).2.2.2.2.1.2.2.1
    have b16 := (w7.gp hg).2.2.2.2.1.2.2.2
    rw [show mR M7 a 10 = g from L7.2.2.2.2.1, show mR M7 g 14 = g + 19 from (w7.gp hg).2.2.1.2.1, show mR M7 g 15 = g + 20 from (w7.gp hg).2.2.1.2.2.1, show mR M7 g 16 = g + 21 from (w7.gp hg).2.2.1.2.2.2.1, keep M7 19 E7 (by omega) (by decide) (by decide), keep M7 20 E7 (by omega) (by decide) (by decide)]
    refine ⟨ix, o7, w7.1.1, fun _ => ⟨(w7.gp hg).1, b14.1, by rw [b14.2]; omega, fun _ => ⟨b15.1, by rw [b15.2]; omega⟩⟩, fun q => ?_, fun q => ⟨(w7.gp hg).1, b16.1, by rw [b16.2]; omega, fun M8 e8 => ⟨by rw [e8]; exact mOk_UI o7 ix, M7, x, E7, ix, e8, fun y16 => ⟨fun _ => by omega, fun y => absurd z0 y⟩, by
      rcases x7 with ⟨y1, y2⟩ | ⟨y1, y2, y3⟩
      · rw [fst9_l y1]; exact Or.inl ⟨y1, y2⟩
      · rw [fst9_r y1, if_pos ⟨by omega, by omega⟩]; exact Or.inr ⟨rfl, y2, y3⟩⟩⟩⟩
    refine (s_MM_place0 (d := d + 4) o7 L7.2.1 hwd).mono (fun y M8 h8 => ?_)
    obtain ⟨e8, hy⟩ := h8
    subst e8
    have hy32 : i32 y := by rw [hy]; exact (o7 _ _).1
    refine ⟨hy32, o7, w7.1.1, (s_MM_stop ⟨by omega, by omega⟩ hy32 o7 w7).mono (fun M9 h9 => ?_)⟩
    obtain ⟨m9, f1, f2, f3⟩ := h9
    have w9 := m9.2.1
    have E9 := E7.step m9 (fun _ z => z.elim) (fun x z => Or.inl z) (fun i i1 i2 _ => f3 i i1 i2)
    have L9 := (E9.lc (R := R) (W := W) (C := 0) (Z := 0) hL).1
    have c16 := (w9.gp hg).2.2.2.2.1.2.2.2
    rw [show mR M9 a 10 = g from L9.2.2.2.2.1, show mR M9 g 16 = g + 21 from (w9.gp hg).2.2.1.2.2.2.1]
    exact ⟨m9.1, w9.1.1, (w9.gp hg).1, c16.1, by rw [c16.2]; omega, fun M10 e10 => ⟨by rw [e10]; exact mOk_UI m9.1 ix, M9, x, E9, ix, e10, fun y16 => by rw [f1] at y16; exact absurd y16 (by decide), by
      rcases x7 with ⟨y1, y2⟩ | ⟨y1, y2, y3⟩
      · exact absurd (y2.1.symm.trans q.1) y1
      · have p7 : nt M8 (a + 7) wd = nt M (a + 7) wd := (E7.1.lst n7 (by omega)).2.1 wd
        rw [fst9_r y1, if_neg (fun z => by omega)]
        exact Or.inl ⟨by simp, f1, by rw [f2, hy, p7]⟩⟩⟩
  · have t1 := ht1 z0
    subst t1
    refine (x_MM_workOut (d := d + 1) (b := R) (F := False) (fun z => z) h (Nat.le_refl _) eo tm hty he).mono (fun M4 t4 => ?_)
    obtain ⟨o4, ⟨E4, v4⟩, x4⟩ := t4
    have bz : ∀ x : vrs, bef (mI M (g + 18) v) (mI M (g + 19) v) (mI M (g + 20) v) (nt M (a + 7) wd) x = wh9 x (nt M (a + 7) wd) := fun x => if_pos z0
    rw [bz]
    generalize vlM M a g nv (i, j) = v9 at x4 ⊢
    have w4 := E4.1.2.1
    have L4 := (E4.lc (R := R) (W := W) (C := 0) (Z := 0) hL).1
    have c16 := (w4.gp hg).2.2.2.2.1.2.2.2
    rw [show mR M4 a 10 = g from L4.2.2.2.2.1, show mR M4 g 16 = g + 21 from (w4.gp hg).2.2.1.2.2.2.1, show mR M4 a 21 = a + 97 from (w4.1.2.2.2.2.1.2.2.2.2.2.2).1]
    refine ⟨o4, w4.1.1, (w4.gp hg).1, (w4.1.2.2.2.2.2.2.2.1).1.1, by rw [(w4.1.2.2.2.2.2.2.2.1).1.2]; omega, c16.1, by rw [c16.2]; omega, fun M5 e5 => ⟨by rw [e5]; exact mOk_UI o4 i32_w32, M4, _, E4, i32_w32, e5, fun y16 => ⟨fun y => absurd y z0, fun _ => ?_⟩, ?_⟩⟩
    · rcases v4 with y | ⟨-, y⟩
      · exact absurd y16 y
      · unfold vok at y
        rw [w32_id ⟨by omega, by omega⟩]
        omega
    · unfold wh9
      rcases x4 with y | y | ⟨y16, y⟩
      · exact absurd h16 y
      · rw [if_pos y.1]
        exact Or.inl ⟨y.1, y.2.1, y.2.2⟩
      · have vk : vok 1 (mL M4 (a + 97) 0) (mL M4 (a + 98) 0) := by
          rcases v4 with q | ⟨-, q⟩
          · exact absurd y16 q
          · exact q
        unfold vok at vk
        rw [y]
        refine Or.inr ⟨rfl, y16, ?_⟩
        rw [w32_id ⟨by omega, by omega⟩]
        rfl
/-- the rule's root, and its tree -/
theorem rl_ctx {i j : Nat} {t : Int} {rv : Nat → Int} (hL : Lc M2 a g N T2 K) (g6 : mI M2 g 6 = R) (hR : R ≤ 60) (eo : Eo (wk M2 a) 6 i j) (h : rlR 1 M2 a g N T2 K T3 t M3) (z : mI M3 a 16 = 0) (hp : ∀ n, n < T2 → pm M3 g n = pm M2 g n) (tm : Tmr M2 M3 a g rv i j T2 T3) : Ctx M3 a g R W T3 (nrq M2 a rv) i j T2 t := by
  have G3 := (rlR.ge (R := R) (W := W) (C := 0) (Z := 0) hL h).2.1 z hp
  have sx := (rlR.ge (R := R) (W := W) (C := 0) (Z := 0) hL h).1.sx hL.2.1.1.1 hL.2.2.2.2.2.1
  refine ⟨by rw [sx.1]; exact eo, ?_⟩
  rcases h.2.2.2.2.2 with y | ⟨-, ⟨f, ty⟩, -⟩
  · exact absurd z y
  · refine ⟨f, T3, ty.mono (fun v hv => ?_), Nat.le_refl _, by rw [sx.1, sx.2.1]; exact tm⟩
    unfold nmr at hv
    rw [g6] at hv
    rcases hv with ⟨h1, h2, h3, h4⟩ | ⟨h1, -⟩
    · have gt := G3.1.tr (r := v.toNat) hR (by omega)
      rw [show ((v.toNat : Nat) : Int) = v by first | rfl | omega] at gt
      refine ⟨Or.inl ⟨h1, h2, Or.inr ?_⟩, gt⟩
      rw [(G3.1.2.1 v.toNat (by omega)).1]
      exact h4 (by decide)
    · exact absurd h1 (by decide)
/-- the names inside a var -/
theorem vI.sx (w : Wd M a) (v : vI M a g N T K R W C Z bl T2 M2) : SXq M a M2 := v.2.1.sx w v.1.2.2.2.2.2.1
theorem vI.rs (h : Df M a g N T K R W C Z E tg) (hS : RSq M a g K s.1) (v : vI M a g N T K R W C Z bl T2 M2) (h3 : lst3 M a M2) : RSq M2 a g K s.1 := hS.ge h.1.2.2.1 h.2.1.1 h.2.1.2.1 h.2.2.2.2.1.1 v.2.2.2.2.2.2 (v.sx h.1.2.1.1.1) (h3.q K)
theorem vI.ern (h : Df M a g N T K R W C Z E tg) (hS : RSq M a g K s.1) (v : vI M a g N T K R W C Z bl T2 M2) (h3 : lst3 M a M2) : Ern M2 a g K 1 = Ern M a g K 1 := by
  rw [(vI.rs h hS v h3).en (Or.inr rfl), hS.en (Or.inr rfl), (v.sx h.1.2.1.1.1).sm]
theorem vI.nr (h : Df M a g N T K R W C Z E tg) (v : vI M a g N T K R W C Z bl T2 M2) (h3 : lst3 M a M2) : nrq M2 a (rvn M2 a K) = nrq M a (rvn M a K) := by
  have sx := v.sx h.1.2.1.1.1
  funext y
  unfold nrq
  rw [sx.1, sx.nv, h3.rv sx]
/-- a rule of consts is worth what the text says -/
theorem vI.vl {i j : Nat} (h : Df M a g N T K R W C Z E tg) (hS : RSq M a g K s.1) (v : vI M a g N T K R W C Z bl T2 M2) (h3 : lst3 M a M2) (he6 : Eo (wk M a) 6 i j) (hfl : (fl (wk M a) (E9 (smx M a) s.1 1) (nt M (a + 7)) 0 i j).1 = 0) : vlM M2 a g (nrq M a (rvn M a K)) (i, j) = vlq (wk M a) (cv9 (wk M a) (nuq M a) (smx M a) s.1) (nt M (a + 7)) 0 0 i j := by
  have sx := v.sx h.1.2.1.1.1
  have RS := vI.rs h hS v h3
  have en := vI.ern h hS v h3
  rw [← vI.nr h v h3]
  show vlq (wk M2 a) (cvq M2 a g (nrq M2 a (rvn M2 a K))) (nt M2 (a + 7)) 0 0 i j = _
  rw [sx.1, sx.2.1]
  refine vl_cg0 (E := Ern M a g K 1) (fun y y1 y2 => ?_) he6 (by rw [hS.en (Or.inr rfl)]; exact hfl)
  rw [RS.cv (by rw [sx.1, en]; exact y2), sx.1, sx.nu, sx.sm]
/-- what the lists of names do -/
theorem lst3.rl {co t : Int} (hg : g = a + 13 ∨ g = a + 49) (q : rlR co M2 a g N T2 K T3 t M3) : lst3 M2 a M3 := lst3.of q.1 (fun i hi z => by
    have z' : ((a + i = g + 1 ∨ a + i = g + 3 ∨ a + i = g + 5 ∨ a + i = g + 7 ∨ a + i = g + 9 ∨ a + i = g + 11) ∨ a + i = a + 91) ∨ (a + i = a + 93 ∨ a + i = a + 95 ∨ a + i = g + 7) := z
    first | exact l33z hg hi z' | omega)
theorem lst3.eo {F : Prop} {R' W' T' : Nat} (k : EO F M2 a g R' W' T' M3) : lst3 M2 a M3 := lst3.of k.1 (fun i hi z => by omega)
theorem lst3.ui {x : Nat} {v : Int} (h : Lc M2 a g N T2 K) (hv : i32 v) {i : Nat} (hi : 18 ≤ i ∧ i ≤ 21) (f1 : frO (13 + i)) (f2 : frO (49 + i)) (e : M3 = mUI M2 (g + i) W v) : lst3 M2 a M3 ∧ ∀ n, pm M3 g n = pm M2 g n := by
  obtain ⟨-, -, -, m3, -, -⟩ := gsti h hv (by omega) f1 f2 (fun z => by omega) e
  exact ⟨lst3.of m3 (fun _ _ z => z), fun n => (m3.lst (tL_in (q := g + 3) h.2.2.2.2.2.1 (by omega)) (fun z => z)).2.1 n⟩
theorem lst3.sp {c p : Int} (hg : g = a + 13 ∨ g = a + 49) (q : Mv (fun _ => False) (fun x => x = a) M2 a M3 ∧ mI M3 a 16 = c ∧ mI M3 a 17 = p ∧ ∀ i, i ≠ 16 → i ≠ 17 → mI M3 a i = mI M2 a i) : lst3 M2 a M3 ∧ ∀ n, pm M3 g n = pm M2 g n := ⟨lst3.of q.1 (fun _ _ z => z), fun n => (q.1.lst (tL_in (q := g + 3) hg (tLk3 g)) (fun z => z)).2.1 n⟩
end VXA
end
section
/-! The reference's vars, exactly: their end. -/
section VXB
variable {G : mG} {d a g R W C Z T T2 T3 N K : Nat} {M M2 M3 : mM} {E : Eg9} {tg bl : Int} {s s' : st9} {nv : Nat → Int}
theorem x_vi410 {gm : gm9} {x : Int × Int × Int} {k e : Nat} (eγ : E.2 = txg M a N s.1 gm) (hx9 : mI M2 a 16 = 0 → mI M2 (g + 19) W = x.1 ∧ mI M2 (g + 20) W = x.2.1 ∧ mI M2 (g + 21) W = x.2.2) (hb : bl = 0 ∨ bl = 1) (h : Df M a g N T K R W C Z E tg) (hS : RSq M a g K s.1) (hW : W < 12) (hk : k + 1 < N) (v2 : vI M a g N T K R W C Z bl T2 M2) (l2 : lst3 M a M2) (hnew : fdn M a K (k + 1) = -1) (hTe : T2 ≤ e) (hZe : Z ≤ e) (hv : mI M2 a 16 = 0 → (mI M2 (g + 18) W ≠ 0 → mI M2 (g + 19) W = 0 ∧ mI M2 (g + 20) W = 1) ∧ mI M2 (g + 19) W ≤ mI M2 (g + 21) W ∧ mI M2 (g + 21) W ≤ mI M2 (g + 20) W ∧ -1000000000 < mI M2 (g + 19) W ∧ mI M2 (g + 20) W < 1000000000) (flt : mI M2 a 16 ≠ 0 → s'.2.2.1 ≠ 0 ∧ fpw M2 a s'.2.2) (good : mI M2 a 16 = 0 → s' = (s.1 ++ [(k + 1, 3, bl, (0, 0, 1))], (W + 1, R, C, if tg = -1 then 0 else 1), (0, 0))) : h_MM_varItem_410 G (d + 7) a k W M2 (fun M' => mOk M' ∧ itX M a g N e s' (gm.1 ++ [x], gm.2) M') := by
  obtain ⟨hL, ⟨g6, g12, g18, g17⟩, ⟨y30, y32, y34⟩, hK, hD⟩ := id h
  have RS9 := vI.rs h hS v2 l2
  have sx9 := v2.sx hL.2.1.1.1
  obtain ⟨L9, I9, gI9, ⟨z30, z32, z34⟩, c18, hT, G9⟩ := v2
  have hN := hL.2.1.1.2.2
  have hg := hL.2.2.2.2.2.1
  have hBd := hD.1
  have w9 := L9.2.1.1.1
  refine k_MM_varItem_410 L9.1 (i32s (by omega) (by omega)) (i32s (by omega) (by omega)) ?_
  rw [show mR M2 a 10 = g from L9.2.2.2.2.1]
  refine ⟨w9.1.1, (w9.gp hg).1, i32s (by omega) (by omega), fun M1 e1 => ?_⟩
  have a0 := goff0 hg
  obtain ⟨m1, f1, l1⟩ := mv_cell (v := (W : Int) + 1) (i32s (by omega) (by omega)) L9.1 w9 (show a ≤ g by omega) ⟨a0.1, a0.2.1, a0.2.2.1⟩ e1
  have no : ∀ q : Nat, False → q ∈ nums a := fun _ z => z.elim
  have aI1 := (m1.fld w9 no (by omega)).1
  have g1 : ∀ i, mI M1 g i = if i = 12 then (W : Int) + 1 else mI M g i := fun i => by
    rw [f1]
    by_cases z : i = 12
    · rw [if_pos ⟨rfl, z⟩, if_pos z]
    · rw [if_neg (fun y => z y.2), if_neg z, gI9]
  have x12 : mI M1 g 12 = (W : Int) + 1 := by rw [g1, if_pos rfl]
  have x6 : mI M1 g 6 = R := by rw [g1, if_neg (by omega), g6]
  have L1 : Lc M1 a g N T2 K := L9.mv m1 no (fun _ z => z.elim) (by rw [x6, gI9, g6]; omega) (by rw [x12, gI9, g12]; omega) ⟨by omega, by omega⟩ (fun r _ => by rw [f1, if_neg (fun z => by omega)])
  have I1 : iF M a g M1 := I9.trans (iF.mk w9 m1 (fun _ z => z.elim) (fun x z => Or.inr (Or.inl (by omega))) (fun i _ _ _ => by rw [aI1]))
  have w1 := m1.2.1
  refine (s_MM_know (d := d + 6) (u := (k : Int) + 1) (i32s (by omega) (by omega)) (i32s (by omega) (by omega)) (i32s (by omega) (by omega)) L1.1 w1 L1.2.2.1.1 L1.2.2.1.2.1 L1.2.2.1.2.2.1 (by omega)).mono (fun M3 t => ?_)
  obtain ⟨o2, m2, lx2, p2, e2, s2, x2⟩ := t
  obtain ⟨L2, gI2, aI2⟩ := L1.kn (by omega) m2 lx2 p2 e2 s2 x2 (by omega) (Or.inl ⟨rfl, by omega, by omega⟩) (fun z => by omega)
  obtain ⟨G2, q30, q32, q34⟩ := ge_kn (R := R) (W := W + 1) (C := C) (Z := Z) (T := T2) w1 hg m2
  have I2 : iF M a g M3 := I1.trans (iF.mk w1 m2 (fun q hq => knP_it hq) (fun _ z => z.elim) (fun i _ _ _ => by rw [aI2]))
  refine ⟨o2, o2, I2, ?_⟩
  have e16 : mI M3 a 16 = mI M2 a 16 := by rw [aI2, aI1]
  by_cases z16 : mI M3 a 16 = 0
  · have u1 := good (by rw [← e16]; exact z16)
    refine Or.inr ⟨by rw [u1], z16, T2, K + 1, R, W + 1, C, Z, (E.1, gWs E.2 (E.2.2.2.2.2.2.1 ++ [(k + 1, 3, bl, (0, 0, 1))]) (E.2.2.2.2.2.2.2.1 ++ [x], E.2.2.2.2.2.2.2.2)), tg, ⟨L2, ⟨by rw [gI2, x6], by rw [gI2, x12]; omega, by rw [gI2, g1, if_neg (by omega), g18], by rw [gI2, g1, if_neg (by omega), g17]⟩, ⟨?_, ?_, ?_⟩, by omega, ?_⟩, ⟨hTe, hZe⟩, ?_, by rw [u1], ?_⟩
    · rw [q30, (m1.lst (n30 hg) (fun z => z)).1, z30, y30]
    · rw [q32, (m1.lst (n32 hg) (fun z => z)).1, z32, y32]
    · rw [q34, (m1.lst (n34 hg) (fun z => z)).1, z34, y34]
    · have hv := hv (by rw [← e16]; exact z16)
      have D8 := (hD.ge G9).tu hT
      have D9 : Dg M2 g R (W + 1) C Z T2 (E.1, gWs E.2 (E.2.2.2.2.2.2.1 ++ [(k + 1, 3, bl, (0, 0, 1))]) (E.2.2.2.2.2.2.2.1 ++ [x], E.2.2.2.2.2.2.2.2)) tg := D8.vu hW rfl (D8.2.2.2.2.2.2.2.vu rfl (hx9 (by rw [← e16]; exact z16))) ⟨hv.1, hv.2.1, hv.2.2.1, hv.2.2.2.1, hv.2.2.2.2, by rw [c18]; exact hb⟩
      have G1 : Ge M2 g R (W + 1) C Z T2 M1 := ge_mv w9 hg m1 no (fun z => z) (fun z => z) (fun z => z) (fun i i1 i2 (z : g + i = g) => by omega) (fun n _ => ⟨(m1.lst (tL_in (q := g + 1) hg (tLk1 g)) (fun z => z)).2.1 n, (m1.lst (tL_in (q := g + 7) hg (tLk7 g)) (fun z => z)).2.1 n, (m1.lst (tL_in (q := g + 9) hg (tLk9 g)) (fun z => z)).2.1 n, (m1.lst (tL_in (q := g + 11) hg (tLk11 g)) (fun z => z)).2.1 n, (m1.lst (tL_in (q := g + 3) hg (tLk3 g)) (fun z => z)).2.1 n⟩)
      exact (D9.ge G1).ge G2
    · have t1 : tn M1 g = tn M2 g := by
        funext v
        unfold tn
        rw [show mI M1 (g + 18) = mI M2 (g + 18) from funext (fun i => by rw [f1, if_neg (fun z => by omega)]), show mI M1 (g + 14) = mI M2 (g + 14) from funext (fun i => by rw [f1, if_neg (fun z => by omega)])]
      have c14 := m2.cellL w1 (fun q hq => knP_in hq) (goffx (i := 14) hg (by decide) (by decide)) (fun z => z)
      have c16 := m2.cellL w1 (fun q hq => knP_in hq) (goffx (i := 16) hg (by decide) (by decide)) (fun z => z)
      have c17 := m2.cellL w1 (fun q hq => knP_in hq) (goffx (i := 17) hg (by decide) (by decide)) (fun z => z)
      have k18 := m2.cellL w1 (fun q hq => knP_in hq) (goffx (i := 18) hg (by decide) (by decide)) (fun z => z)
      have t2 : tn M3 g = tn M1 g := by
        funext v
        unfold tn
        rw [k18.1, c14.1]
      have sx1 : SXq M2 a M1 := (iF.mk (g := g) w9 m1 (fun _ z => z.elim) (fun x z => Or.inr (Or.inl (by omega))) (fun i _ _ _ => by rw [aI1])).sx w9 hg
      have sx2 : SXq M1 a M3 := (iF.mk (g := g) w1 m2 (fun q hq => knP_it hq) (fun _ z => z.elim) (fun i _ _ _ => by rw [aI2])).sx w1 hg
      have l31 : lst3 M2 a M1 := lst3.of m1 (fun _ _ z => z)
      have RS1 : RSq M1 a g K s.1 := RS9.eq (l31.q K) t1 ⟨by rw [l1], by rw [l1]⟩ sx1
      have hWr : vcn s.1 = W := by
        have := hD.2.2.2.2.2.2.2.1.2
        rw [eγ] at this
        exact this
      rw [u1]
      refine RS1.kn (u := k + 1) (e := (k + 1, 3, bl, (0, 0, 1))) p2 t2 ⟨c16.2, c17.2⟩ sx2 (by rw [e2]; omega) s2 x2 rfl rfl ⟨by simp, by simp⟩ ?_ (fun z => absurd z (by simp)) ?_ (fun _ p hp z => ?_) (by rw [hWr]; rfl)
      · show bl = _
        rw [t1, if_pos rfl]
        unfold tn
        rw [if_pos (show (100 : Int) ≤ 100 + (W : Int) by omega), show (100 + (W : Int) - 100).toNat = W by first | rfl | omega, c18]
        rcases hb with z | z <;> rw [z] <;> rfl
      · rw [l31.fd sx1, l2.fd sx9]
        exact hnew
      · rw [(l31.q K p hp).2.1, (l2.q K p hp).2.1] at z
        rw [(l31.q K p hp).2.2, (l2.q K p hp).2.2]
        have nq := (hL.2.2.1.2.2.2.2 p hp).2.1
        rw [g6, g12] at nq
        omega
    · rw [u1, (I2.sx hL.2.1.1.1 hg).tx9]
      show gWs E.2 _ _ = _
      rw [eγ]
      rfl
  · obtain ⟨u1, u2⟩ := flt (by rw [← e16]; exact z16)
    refine Or.inl ⟨u1, ?_, ?_⟩
    · rw [e16]; exact u2.1
    · rw [show mI M3 a 17 = mI M2 a 17 by rw [aI2, aI1]]; exact u2.2
theorem x_vi369 {gm : gm9} {x9 : Int × Int × Int} {k e e9 i : Nat} {l6 l10 : Int} {V : vrs} (eγ : E.2 = txg M a N s.1 gm) (hx9 : mI M2 a 16 = 0 → mI M2 (g + 19) W = x9.1 ∧ mI M2 (g + 20) W = x9.2.1 ∧ x9.2.2 = if l6 ≠ 0 then V.2.1 else x9.1) (h : Df M a g N T K R W C Z E tg) (hS : RSq M a g K s.1) (hW : W < 12) (hk : k + 1 < N) (hi : i < N) (hi1 : l6 ≠ 0 → i + 1 < N) (v2 : vI M a g N T K R W C Z bl T2 M2) (l2 : lst3 M a M2) (hnew : fdn M a K (k + 1) = -1) (hTe : T2 ≤ e) (hZe : Z ≤ e) (hT16 : T2 ≤ 16384) (il6 : i32 l6) (il10 : i32 l10) (hb : bl = 0 ∨ bl = 1) (hv : mI M2 a 16 = 0 → (bl ≠ 0 → mI M2 (g + 19) W = 0 ∧ mI M2 (g + 20) W = 1) ∧ mI M2 (g + 19) W ≤ mI M2 (g + 20) W ∧ -1000000000 < mI M2 (g + 19) W ∧ mI M2 (g + 20) W < 1000000000) (hf : l6 ≠ 0 → ∃ n : Nat, l10 = n ∧ Ctx M2 a g R W T2 (nrq M a (rvn M a K)) (i + 1) e9 n bl) (hfl : l6 ≠ 0 → Eo (wk M a) 6 (i + 1) e9 ∧ (fl (wk M a) (E9 (smx M a) s.1 1) (nt M (a + 7)) 0 (i + 1) e9).1 = 0) (hV : V = vlq (wk M a) (cv9 (wk M a) (nuq M a) (smx M a) s.1) (nt M (a + 7)) 0 0 (i + 1) e9) (flt : mI M2 a 16 ≠ 0 → s'.2.2.1 ≠ 0 ∧ fpw M2 a s'.2.2) (flb : mI M2 a 16 = 0 → l6 ≠ 0 → (bef bl (mI M2 (g + 19) W) (mI M2 (g + 20) W) (nt M (a + 7) (i + 1)) V).1 ≠ 0 → s'.2.2 = (bef bl (mI M2 (g + 19) W) (mI M2 (g + 20) W) (nt M (a + 7) (i + 1)) V)) (good : mI M2 a 16 = 0 → (l6 ≠ 0 → (bef bl (mI M2 (g + 19) W) (mI M2 (g + 20) W) (nt M (a + 7) (i + 1)) V).1 = 0) → s' = (s.1 ++ [(k + 1, 3, bl, (0, 0, 1))], (W + 1, R, C, if tg = -1 then 0 else 1), (0, 0))) : h_MM_varItem_369 G (d + 7) a k W i l6 l10 M2 (fun M' => mOk M' ∧ itX M a g N e s' (gm.1 ++ [x9], gm.2) M') := by
  have hN := h.1.2.1.1.2.2
  have hg := h.1.2.2.2.2.2.1
  have L2 := v2.1
  have w2 := L2.2.1.1.1
  have b14 := (w2.gp hg).2.2.2.2.1.2.1
  have b16 := (w2.gp hg).2.2.2.2.1.2.2.2
  refine k_MM_varItem_369 L2.1 (i32s (by omega) (by omega)) (i32s (by omega) (by omega)) (i32s (by omega) (by omega)) il6 il10 ?_
  rw [show mR M2 a 10 = g from L2.2.2.2.2.1, show mR M2 g 14 = g + 19 from (w2.gp hg).2.2.1.2.1, show mR M2 g 16 = g + 21 from (w2.gp hg).2.2.1.2.2.2.1, Int.toNat_natCast]
  refine ⟨w2.1.1, (w2.gp hg).1, b14.1, by rw [b14.2]; omega, b16.1, by rw [b16.2]; omega, fun M3 e3 => ?_⟩
  obtain ⟨v3, f3, a3⟩ := v2.st (i := 21) (L2.1 _ _).1 (by omega) (by decide) (by decide) e3
  have x3 := lst3.ui (x := 0) (i := 21) L2 (L2.1 _ _).1 (by omega) (by decide) (by decide) e3
  have l3 := l2.trans x3.1
  have c18 : mI M3 (g + 18) W = bl := v3.2.2.2.2.1
  have c19 : mI M3 (g + 19) W = mI M2 (g + 19) W := by rw [f3, if_neg (fun z => by omega)]
  have c20 : mI M3 (g + 20) W = mI M2 (g + 20) W := by rw [f3, if_neg (fun z => by omega)]
  have c21 : mI M3 (g + 21) W = mI M2 (g + 19) W := by rw [f3, if_pos ⟨rfl, rfl⟩]
  have e16 : mI M3 a 16 = mI M2 a 16 := by rw [a3]
  refine ⟨fun q => x_vi410 eγ (fun z => ?_) hb h hS hW hk v3 l3 hnew hTe hZe (fun z => ?_) (fun z => ?_) (fun z => good (by rw [← e16]; exact z) (fun n6 => q.elim (fun y => absurd y n6) (fun y => absurd z y))), fun q => ?_⟩
  · obtain ⟨p1, p2, p3⟩ := hx9 (by rw [← e16]; exact z)
    have l0 : l6 = 0 := q.elim id (fun y => absurd z y)
    rw [if_neg (fun u => u l0)] at p3
    exact ⟨by rw [c19, p1], by rw [c20, p2], by rw [c21, p1, p3]⟩
  · have := hv (by rw [← e16]; exact z)
    rw [c18, c19, c20, c21]
    exact ⟨this.1, by omega, this.2.1, this.2.2.1, this.2.2.2⟩
  · obtain ⟨u1, u2⟩ := flt (by rw [← e16]; exact z)
    exact ⟨u1, by rw [a3]; exact u2.1, by rw [a3]; exact u2.2⟩
  · have q1 : l6 ≠ 0 := fun z => q (Or.inl z)
    have q2 : mI M3 a 16 = 0 := Classical.byContradiction (fun z => q (Or.inr z))
    obtain ⟨n, hn, ct⟩ := hf q1
    subst hn
    obtain ⟨eo, fl0⟩ := hfl q1
    clear hf hfl q
    have g3 := gsti (i := 21) L2 (L2.1 _ _).1 (by omega) (by decide) (by decide) (fun z => by omega) e3
    have hv := hv (by rw [← e16]; exact q2)
    have ct3 : Ctx M3 a g R W T2 (nrq M a (rvn M a K)) (i + 1) e9 n bl := ct.gn (ge_st (R := R) (W := W) (C := C) (Z := Z) (T := T2) hg g3.2.2.2.1 f3 (by rw [e3]; rfl) (by omega) (fun _ _ => Nat.le_refl W) (by omega) (by omega)).1 h.2.2.2.2.1.1 (g3.2.1.sx w2 hg) (fun n _ => x3.2 n)
    rw [show (i : Int) + 1 = ((i + 1 : Nat) : Int) by first | rfl | omega]
    refine (x_MM_begins (d := d + 1) v3.1 (v3.ev h.2.2.2.2 hT16) q2 ct3 hW (fun z => by omega) (fun z => by omega) (hi1 q1)).mono (fun M4 t4 => ⟨t4.1, ?_⟩)
    obtain ⟨-, M5, x, E5, ix, e4, hx, hbx⟩ := t4
    rw [c18, c19, c20, (v3.sx h.1.2.1.1.1).2.1, vI.vl h hS v3 l3 eo fl0, ← hV] at hbx
    have v5 := v3.eo E5
    obtain ⟨v4, f4, a4⟩ := v5.st (i := 21) ix (by omega) (by decide) (by decide) e4
    have l4 := (l3.trans (lst3.eo E5)).trans (lst3.ui (x := 0) (i := 21) v5.1 ix (by omega) (by decide) (by decide) e4).1
    have w3 := v3.1.2.1.1.1
    have hin : ∀ q, q = a + 99 → q ∈ nums a := fun q hq => by rw [hq]; exact n99
    have keep : ∀ (j : Nat), j ≤ 29 → frO (13 + j) → frO (49 + j) → mI M5 (g + j) = mI M3 (g + j) := fun j j1 f1 f2 => (E5.1.cellL w3 hin (goffx hg f1 f2) (fun z => by
      have : g + j = a ∨ g + j = a + 97 ∨ g + j = a + 98 ∨ g + j = a + 102 ∨ g + j = a + 103 ∨ g + j = a + 104 := z
      omega)).1
    have d18 : mI M4 (g + 18) W = bl := v4.2.2.2.2.1
    have d19 : mI M4 (g + 19) W = mI M2 (g + 19) W := by rw [f4, if_neg (fun z => by omega), keep 19 (by omega) (by decide) (by decide), c19]
    have d20 : mI M4 (g + 20) W = mI M2 (g + 20) W := by rw [f4, if_neg (fun z => by omega), keep 20 (by omega) (by decide) (by decide), c20]
    have d21 : mI M4 (g + 21) W = x := by rw [f4, if_pos ⟨rfl, rfl⟩]
    have z2 : mI M2 a 16 = 0 := by rw [← e16]; exact q2
    refine x_vi410 (x := x9) eγ (fun z => ?_) hb h hS hW hk v4 l4 hnew hTe hZe (fun z => ?_) (fun z => ?_) (fun z => ?_)
    · obtain ⟨p1, p2, p3⟩ := hx9 z2
      rw [if_pos q1] at p3
      rcases hbx with ⟨y1, y2⟩ | ⟨y1, y2, y3⟩
      · rw [a4, y2.1] at z; exact absurd z y1
      · exact ⟨by rw [d19, p1], by rw [d20, p2], by rw [d21, p3, y3]⟩
    rotate_left
    · rcases hbx with ⟨y1, y2⟩ | ⟨y1, y2, -⟩
      · rw [flb z2 q1 y1]
        exact ⟨y1, by rw [a4]; exact y2.1, by rw [a4]; exact y2.2⟩
      · rw [a4] at z; exact absurd y2 z
    · rcases hbx with ⟨y1, y2⟩ | ⟨y1, y2, -⟩
      · rw [a4, y2.1] at z; exact absurd z y1
      · exact good z2 (fun _ => y1)
    have hx := hx (by rw [← a4]; exact z)
    rw [c18, c19, c20] at hx
    rw [d18, d19, d20, d21]
    refine ⟨hv.1, ?_, ?_, hv.2.2.1, hv.2.2.2⟩
    · rcases hb with y | y
      · exact (hx.1 y).1
      · have := hx.2 (by omega); have := hv.1 (by omega); omega
    · rcases hb with y | y
      · exact (hx.1 y).2
      · have := hx.2 (by omega); have := hv.1 (by omega); omega
end VXB
end
section
/-! The reference's vars, exactly: ranges. -/
section VXC
variable {G : mG} {d a g R W C Z T T2 T3 N K : Nat} {M M2 M3 : mM} {E : Eg9} {tg bl : Int} {s s' : st9} {nv : Nat → Int}
theorem fst9_z {x y : Int × Int} (h : (fst9 x y).1 = 0) : x.1 = 0 ∧ y.1 = 0 := by
  unfold fst9 at h
  split at h
  · rename_i q; exact ⟨q, h⟩
  · rename_i q; exact absurd h q
/-- the faults of a range -/
def rgf (lo hi : vrs) (p1 p2 : Int) : Int × Int := fst9 (fst9 (wh9 lo p1) (wh9 hi p2)) (if lo.2.1 ≤ hi.2.1 ∧ hi.2.1 - lo.2.1 < 10000 then (0, 0) else (9, p2))
/-- the same fault in both -/
theorem vI.rf {i j : Nat} {tr : Int} (h : Df M a g N T K R W C Z E tg) (hS : RSq M a g K s.1) (v : vI M a g N T K R W C Z bl T2 M2) (h3 : lst3 M a M2) : rfq M2 a (Ern M2 a g K 1) tr i j = rf9 (wk M a) (nt M (a + 7)) (smx M a) s.1 1 tr i j := by
  have sx := v.sx h.1.2.1.1.1
  unfold rfq rf9
  rw [sx.1, sx.2.1, vI.ern h hS v h3, hS.en (Or.inr rfl)]
/-- a rule of consts inside a var -/
theorem x_vrule {i j : Nat} {tr : Int} {Q : Int → mM → Prop} (h : Df M a g N T K R W C Z E tg) (hS : RSq M a g K s.1) (v2 : vI M a g N T K R W C Z bl T2 M2) (l2 : lst3 M a M2) (z2 : mI M2 a 16 = 0) (htr : tr = 0 ∨ tr = 1) (hT : T2 + (j - i) ≤ 30000) (eo : Eo (wk M a) 6 i j) (hj : j < N) (hbad : ∀ (M3 : mM) (T3 : Nat), Lc M3 a g N T3 K → iF M a g M3 → mI M3 a 16 ≠ 0 → (rf9 (wk M a) (nt M (a + 7)) (smx M a) s.1 1 tr i j).1 ≠ 0 → fpw M3 a (rf9 (wk M a) (nt M (a + 7)) (smx M a) s.1 1 tr i j) → Q T2 M3) (hgood : ∀ (M3 : mM) (T3 : Nat), T2 < T3 → T3 ≤ T2 + (j - i) → vI M a g N T K R W C Z bl T3 M3 → lst3 M a M3 → mI M3 a 16 = 0 → (rf9 (wk M a) (nt M (a + 7)) (smx M a) s.1 1 tr i j).1 = 0 → Ctx M3 a g R W T3 (nrq M a (rvn M a K)) i j T2 tr → (Ge M2 g R W C Z T2 M3 ∧ SXq M2 a M3 ∧ ∀ n, n < T2 → pm M3 g n = pm M2 g n) → Q T2 M3) : Ci G y_MM_rule1 (d + 7) [vr a, vi i, vi j, vi tr, vi 1] M2 Q := by
  have L2 := v2.1
  have hg := h.1.2.2.2.2.2.1
  have sx2 := v2.sx h.1.2.1.1.1
  refine (x_MM_rule1 (d := d) (co := 1) (tr := tr) (ur_n (M := M2) (a := a) (g := g) (N := N) (K := K) (co := 1)) ⟨by decide, by decide⟩ htr L2 hT (by rw [sx2.1]; exact eo) hj).mono (fun x M3 q3 => ?_)
  obtain ⟨ex, T3, t1, t2, Rl, qx⟩ := q3
  subst ex
  rw [vI.rf h hS v2 l2] at qx
  have l3 := l2.trans (lst3.rl hg Rl)
  have I3 := (rlR.ge (R := R) (W := W) (C := C) (Z := Z) L2 Rl).1
  rcases qx with q | ⟨q, qf⟩ | ⟨q, q1, q2, q4⟩
  · exact absurd z2 q
  · exact hbad M3 T3 Rl.2.1 (v2.2.1.trans I3) q (by rw [← qf.1]; exact q) qf
  · have v3 := v2.rl (Nat.le_of_lt t1) Rl q q4
    have ct := rl_ctx (W := W) L2 (v2.g6 h) h.2.2.2.2.1.1 (by rw [sx2.1]; exact eo) Rl q q4 q2
    rw [vI.nr h v2 l2] at ct
    exact hgood M3 T3 t1 t2 v3 l3 q q1 ct ⟨(rlR.ge (R := R) (W := W) (C := C) (Z := Z) L2 Rl).2.1 q q4, I3.sx L2.2.1.1.1 hg, q4⟩
theorem x_vi215x {gm : gm9} {e : Nat} {l1 l3 l4 l5 l6 l7 l8 l9 k0 : Int} (L2 : Lc M2 a g N T2 K) (I2 : iF M a g M2) (z : mI M2 a 16 ≠ 0) (flt : s'.2.2.1 ≠ 0 ∧ fpw M2 a s'.2.2) (i1 : i32 l1) (i3 : i32 l3) (i4 : i32 l4) (i5 : i32 l5) (i6 : i32 l6) (i7 : i32 l7) (i8 : i32 l8) (i9 : i32 l9) (i0 : i32 k0) : h_MM_varItem_215 G (d + 7) a l1 l3 l4 l5 l6 l7 l8 l9 k0 M2 (fun M' => mOk M' ∧ itX M a g N e s' gm M') :=
  k_MM_varItem_215w L2.1 i1 i3 i4 i5 i6 i7 i8 i9 i0 ⟨L2.2.1.1.1.1.1, fun y => absurd y z, fun _ => ⟨L2.1, I2, Or.inl flt⟩⟩
theorem x_vi185x {gm : gm9} {e : Nat} {l1 l2 l3 l4 l5 l6 l7 l9 k0 : Int} (L2 : Lc M2 a g N T2 K) (I2 : iF M a g M2) (z : mI M2 a 16 ≠ 0) (flt : s'.2.2.1 ≠ 0 ∧ fpw M2 a s'.2.2) (i1 : i32 l1) (i2 : i32 l2) (i3 : i32 l3) (i4 : i32 l4) (i5 : i32 l5) (i6 : i32 l6) (i7 : i32 l7) (i9 : i32 l9) (i0 : i32 k0) : h_MM_varItem_185 G (d + 7) a l1 l2 l3 l4 l5 l6 l7 l9 k0 M2 (fun M' => mOk M' ∧ itX M a g N e s' gm M') :=
  k_MM_varItem_185 L2.1 i1 i2 i3 i4 i5 i6 i7 i9 i0 ⟨fun _ => L2.2.1.1.1.1.1, fun _ => x_vi215x L2 I2 z flt i1 i3 i4 i5 i6 i7 i0 i9 ⟨by decide, by decide⟩, fun q => absurd (Or.inr z) q⟩
theorem SXq.to (h : SXq M a M2) (k : SXq M a M3) : SXq M2 a M3 := ⟨k.1.trans h.1.symm, k.2.1.trans h.2.1.symm, k.2.2.1.trans h.2.2.1.symm, k.2.2.2.trans h.2.2.2.symm⟩
theorem x_vi215b {gm : gm9} {x9 : Int × Int × Int} {k e e9 i : Nat} {l6 l10 : Int} {V : vrs} (eγ : E.2 = txg M a N s.1 gm) (hx9 : x9 = (0, 1, if l6 ≠ 0 then V.2.1 else 0)) (h : Df M a g N T K R W C Z E tg) (hS : RSq M a g K s.1) (hW : W < 12) (hk : k + 3 < N) (hi : i < N) (hi1 : l6 ≠ 0 → i + 1 < N) (v2 : vI M a g N T K R W C Z 1 T2 M2) (l2 : lst3 M a M2) (hnew : fdn M a K (k + 1) = -1) (hTe : T2 ≤ e) (hZe : Z ≤ e) (hT16 : T2 ≤ 16384) (il6 : i32 l6) (il10 : i32 l10) (z16 : mI M2 a 16 = 0) (hf : l6 ≠ 0 → ∃ n : Nat, l10 = n ∧ Ctx M2 a g R W T2 (nrq M a (rvn M a K)) (i + 1) e9 n 1) (hfl : l6 ≠ 0 → Eo (wk M a) 6 (i + 1) e9 ∧ (fl (wk M a) (E9 (smx M a) s.1 1) (nt M (a + 7)) 0 (i + 1) e9).1 = 0) (hV : V = vlq (wk M a) (cv9 (wk M a) (nuq M a) (smx M a) s.1) (nt M (a + 7)) 0 0 (i + 1) e9) (flb : l6 ≠ 0 → (wh9 V (nt M (a + 7) (i + 1))).1 ≠ 0 → s'.2.2 = wh9 V (nt M (a + 7) (i + 1))) (good : (l6 ≠ 0 → (wh9 V (nt M (a + 7) (i + 1))).1 = 0) → s' = (s.1 ++ [(k + 1, 3, 1, (0, 0, 1))], (W + 1, R, C, if tg = -1 then 0 else 1), (0, 0))) : h_MM_varItem_215 G (d + 7) a k W 1 i l6 (-1) (-1) ((k : Int) + 3) l10 M2 (fun M' => mOk M' ∧ itX M a g N e s' (gm.1 ++ [x9], gm.2) M') := by
  have hN := h.1.2.1.1.2.2
  have hg := h.1.2.2.2.2.2.1
  have hR := h.2.2.2.2.1.1
  have L2 := v2.1
  have w2 := L2.2.1.1.1
  have ik : i32 (k : Int) := i32s (by omega) (by omega)
  have iW : i32 (W : Int) := i32s (by omega) (by omega)
  have ii : i32 (i : Int) := i32s (by omega) (by omega)
  have ik3 : i32 ((k : Int) + 3) := i32s (by omega) (by omega)
  have W12 : ((0 : Int) ≤ W ∧ (W : Int) < ((12 : Nat) : Int)) := by omega
  refine k_MM_varItem_215w L2.1 ik iW ⟨by decide, by decide⟩ ii il6 ⟨by decide, by decide⟩ ⟨by decide, by decide⟩ ik3 il10 ⟨w2.1.1, fun _ => ⟨fun y => absurd y (by decide), fun _ => ?_⟩, fun y => absurd z16 y⟩
  rw [show mR M2 a 10 = g from L2.2.2.2.2.1, show mR M2 g 14 = g + 19 from (w2.gp hg).2.2.1.2.1, Int.toNat_natCast]
  refine ⟨(w2.gp hg).1, (w2.gp hg).2.2.2.2.1.2.1.1, by rw [(w2.gp hg).2.2.2.2.1.2.1.2]; exact W12, fun M3 e3 => ?_⟩
  have G3 := vst_ge (R := R) (C := C) (Z := Z) (i := 19) (v := 0) L2 ⟨by decide, by decide⟩ (by omega) (by decide) (by decide) e3
  obtain ⟨v3, f3, a3⟩ := v2.st (i := 19) (v := 0) ⟨by decide, by decide⟩ (by omega) (by decide) (by decide) e3
  have L3 := v3.1
  have w3 := L3.2.1.1.1
  rw [show mR M3 a 10 = g from L3.2.2.2.2.1, show mR M3 g 15 = g + 20 from (w3.gp hg).2.2.1.2.2.1]
  refine ⟨(w3.gp hg).1, (w3.gp hg).2.2.2.2.1.2.2.1.1, by rw [(w3.gp hg).2.2.2.2.1.2.2.1.2]; exact W12, fun M4 e4 => ?_⟩
  have G4 := vst_ge (R := R) (C := C) (Z := Z) (i := 20) (v := 1) L3 ⟨by decide, by decide⟩ (by omega) (by decide) (by decide) e4
  obtain ⟨v4, f4, a4⟩ := v3.st (i := 20) (v := 1) ⟨by decide, by decide⟩ (by omega) (by decide) (by decide) e4
  have G24 := G3.trans G4
  have x3 := lst3.ui (x := 0) (i := 19) (v := 0) L2 ⟨by decide, by decide⟩ (by omega) (by decide) (by decide) e3
  have x4 := lst3.ui (x := 0) (i := 20) (v := 1) L3 ⟨by decide, by decide⟩ (by omega) (by decide) (by decide) e4
  have l4 := (l2.trans x3.1).trans x4.1
  have w0 := h.1.2.1.1.1
  have sx24 : SXq M2 a M4 := SXq.to (v2.sx w0) (v4.sx w0)
  have z4 : mI M4 a 16 = 0 := by rw [a4, a3]; exact z16
  have bz : ∀ lo hi p : Int, bef 1 lo hi p V = wh9 V p := fun lo hi p => if_pos (by decide)
  have c19 : mI M4 (g + 19) W = 0 := by rw [f4, if_neg (fun z => by omega), f3, if_pos ⟨rfl, rfl⟩]
  have c20 : mI M4 (g + 20) W = 1 := by rw [f4, if_pos ⟨rfl, rfl⟩]
  refine x_vi369 (x9 := x9) eγ (fun _ => by rw [c19, c20, hx9]; exact ⟨rfl, rfl, rfl⟩) h hS hW (by omega) hi hi1 v4 l4 hnew hTe hZe hT16 il6 il10 (Or.inr rfl) (fun _ => ?_) (fun q => ?_) hfl hV (fun z => absurd z4 z) (fun _ n6 => by rw [bz]; exact flb n6) (fun _ n6 => good (fun q => by rw [← bz]; exact n6 q))
  · rw [c19, c20]
    exact ⟨fun _ => ⟨rfl, rfl⟩, by decide, by decide, by decide⟩
  · obtain ⟨n, hn, ct⟩ := hf q
    exact ⟨n, hn, ct.gn G24.1 hR sx24 (fun n _ => (x4.2 n).trans (x3.2 n))⟩
theorem x_vi215n {gm : gm9} {x9 : Int × Int × Int} {k e e9 i j lo hi : Nat} {l6 l10 : Int} {V Vl Vh : vrs} (eγ : E.2 = txg M a N s.1 gm) (hx9 : x9 = (Vl.2.1, Vh.2.1, if l6 ≠ 0 then V.2.1 else Vl.2.1)) (h : Df M a g N T K R W C Z E tg) (hS : RSq M a g K s.1) (hW : W < 12) (hk : k + 3 < N) (hi' : i < N) (hi1 : l6 ≠ 0 → i + 1 < N) (hj : j + 1 < N) (v2 : vI M a g N T K R W C Z 0 T2 M2) (l2 : lst3 M a M2) (hnew : fdn M a K (k + 1) = -1) (hTe : T2 ≤ e) (hZe : Z ≤ e) (hT16 : T2 ≤ 16384) (il6 : i32 l6) (il10 : i32 l10) (z16 : mI M2 a 16 = 0) (cl : Ctx M2 a g R W T2 (nrq M a (rvn M a K)) (k + 3) j lo 0) (ch : Ctx M2 a g R W T2 (nrq M a (rvn M a K)) (j + 1) i hi 0) (fl1 : (fl (wk M a) (E9 (smx M a) s.1 1) (nt M (a + 7)) 0 (k + 3) j).1 = 0) (fl2 : (fl (wk M a) (E9 (smx M a) s.1 1) (nt M (a + 7)) 0 (j + 1) i).1 = 0) (hf : l6 ≠ 0 → ∃ n : Nat, l10 = n ∧ Ctx M2 a g R W T2 (nrq M a (rvn M a K)) (i + 1) e9 n 0) (hfl : l6 ≠ 0 → Eo (wk M a) 6 (i + 1) e9 ∧ (fl (wk M a) (E9 (smx M a) s.1 1) (nt M (a + 7)) 0 (i + 1) e9).1 = 0) (hV : V = vlq (wk M a) (cv9 (wk M a) (nuq M a) (smx M a) s.1) (nt M (a + 7)) 0 0 (i + 1) e9) (hVl : Vl = vlq (wk M a) (cv9 (wk M a) (nuq M a) (smx M a) s.1) (nt M (a + 7)) 0 0 (k + 3) j) (hVh : Vh = vlq (wk M a) (cv9 (wk M a) (nuq M a) (smx M a) s.1) (nt M (a + 7)) 0 0 (j + 1) i) (fr : (rgf Vl Vh (nt M (a + 7) (k + 3)) (nt M (a + 7) (j + 1))).1 ≠ 0 → s'.2.2 = (rgf Vl Vh (nt M (a + 7) (k + 3)) (nt M (a + 7) (j + 1)))) (flb : (rgf Vl Vh (nt M (a + 7) (k + 3)) (nt M (a + 7) (j + 1))).1 = 0 → l6 ≠ 0 → (bef 0 Vl.2.1 Vh.2.1 (nt M (a + 7) (i + 1)) V).1 ≠ 0 → s'.2.2 = (bef 0 Vl.2.1 Vh.2.1 (nt M (a + 7) (i + 1)) V)) (good : (rgf Vl Vh (nt M (a + 7) (k + 3)) (nt M (a + 7) (j + 1))).1 = 0 → (l6 ≠ 0 → (bef 0 Vl.2.1 Vh.2.1 (nt M (a + 7) (i + 1)) V).1 = 0) → s' = (s.1 ++ [(k + 1, 3, 0, (0, 0, 1))], (W + 1, R, C, if tg = -1 then 0 else 1), (0, 0))) : h_MM_varItem_215 G (d + 7) a k W 0 i l6 lo hi j l10 M2 (fun M' => mOk M' ∧ itX M a g N e s' (gm.1 ++ [x9], gm.2) M') := by
  have hN := h.1.2.1.1.2.2
  have hg := h.1.2.2.2.2.2.1
  have hR := h.2.2.2.2.1.1
  have L2 := v2.1
  have w2 := L2.2.1.1.1
  have ik : i32 (k : Int) := i32s (by omega) (by omega)
  have iW : i32 (W : Int) := i32s (by omega) (by omega)
  have ii : i32 (i : Int) := i32s (by omega) (by omega)
  have ij : i32 (j : Int) := i32s (by omega) (by omega)
  have ilo : i32 (lo : Int) := by
    obtain ⟨-, f, e', t, t', -⟩ := cl
    have := t.tn.lt
    exact i32s (by omega) (by omega)
  have ihi : i32 (hi : Int) := by
    obtain ⟨-, f, e', t, t', -⟩ := ch
    have := t.tn.lt
    exact i32s (by omega) (by omega)
  have W12 : ((0 : Int) ≤ W ∧ (W : Int) < ((12 : Nat) : Int)) := by omega
  refine k_MM_varItem_215w L2.1 ik iW ⟨by decide, by decide⟩ ii il6 ilo ihi ij il10 ⟨w2.1.1, fun _ => ⟨fun _ => ?_, fun y => absurd rfl y⟩, fun y => absurd z16 y⟩
  rw [show mR M2 a 10 = g from L2.2.2.2.2.1, show mR M2 g 14 = g + 19 from (w2.gp hg).2.2.1.2.1, Int.toNat_natCast, show (k : Int) + 3 = ((k + 3 : Nat) : Int) by first | rfl | omega]
  refine ⟨(w2.gp hg).1, (x_MM_wholeOf (d := d + 2) L2 (v2.ev h.2.2.2.2 hT16) cl hk).mono (fun x1 M3 t3 => ?_)⟩
  obtain ⟨ix1, o3, E3, r3, y3, -⟩ := t3
  have y3 := y3 z16
  have w0 := h.1.2.1.1.1
  have ec : Eo (wk M a) 6 (k + 3) j := by have := cl.1; rw [(v2.sx w0).1] at this; exact this
  have eh : Eo (wk M a) 6 (j + 1) i := by have := ch.1; rw [(v2.sx w0).1] at this; exact this
  unfold whX at y3
  rw [vI.vl h hS v2 l2 ec fl1, ← hVl, (v2.sx w0).2.1] at y3
  have v3 := v2.eo E3
  have l3 := l2.trans (lst3.eo E3)
  have G3 := (E3.lc (R := R) (W := W) (C := C) (Z := Z) L2).2.2.1
  have w3 := v3.1.2.1.1.1
  refine ⟨ix1, o3, (w3.gp hg).2.2.2.2.1.2.1.1, by rw [(w3.gp hg).2.2.2.2.1.2.1.2]; exact W12, fun M4 e4 => ?_⟩
  have G4 := vst_ge (R := R) (C := C) (Z := Z) (i := 19) v3.1 ix1 (by omega) (by decide) (by decide) e4
  obtain ⟨v4, f4, a4⟩ := v3.st (i := 19) ix1 (by omega) (by decide) (by decide) e4
  have L4 := v4.1
  have w4 := L4.2.1.1.1
  have G24 := G3.trans G4
  have c4 : mI M4 (g + 19) W = x1 := by rw [f4, if_pos ⟨rfl, rfl⟩]
  have z4 : mI M4 a 16 = mI M3 a 16 := by rw [a4]
  have x4 := lst3.ui (x := 0) (i := 19) v3.1 ix1 (by omega) (by decide) (by decide) e4
  have l4 := l3.trans x4.1
  have aa4 : mI M4 a = mI M3 a := a4
  have sx24 : SXq M2 a M4 := SXq.to (v2.sx w0) (v4.sx w0)
  have p24 : ∀ n, n < T2 → pm M4 g n = pm M2 g n := fun n _ => (x4.2 n).trans (E3.pm n)
  clear f4 a4 e4
  rw [show mR M4 a 10 = g from L4.2.2.2.2.1, show mR M4 g 15 = g + 20 from (w4.gp hg).2.2.1.2.2.1, show (j : Int) + 1 = ((j + 1 : Nat) : Int) by first | rfl | omega]
  refine ⟨w4.1.1, (w4.gp hg).1, (x_MM_wholeOf (d := d + 2) L4 (v4.ev h.2.2.2.2 hT16) (ch.gn G24.1 hR sx24 p24) hj).mono (fun x2 M5 t5 => ?_)⟩
  obtain ⟨ix2, o5, E5, r5, y5, y5'⟩ := t5
  unfold whX at y5
  rw [vI.vl h hS v4 l4 eh fl2, ← hVh, (v4.sx w0).2.1] at y5
  have v5 := v4.eo E5
  have G5 := (E5.lc (R := R) (W := W) (C := C) (Z := Z) L4).2.2.1
  have w5 := v5.1.2.1.1.1
  refine ⟨ix2, o5, (w5.gp hg).2.2.2.2.1.2.2.1.1, by rw [(w5.gp hg).2.2.2.2.1.2.2.1.2]; exact W12, fun M6 e6 => ?_⟩
  have G6 := vst_ge (R := R) (C := C) (Z := Z) (i := 20) v5.1 ix2 (by omega) (by decide) (by decide) e6
  obtain ⟨v6, f6, a6⟩ := v5.st (i := 20) ix2 (by omega) (by decide) (by decide) e6
  have L6 := v6.1
  have w6 := L6.2.1.1.1
  have G26 := (G24.trans G5).trans G6
  have x6 := lst3.ui (x := 0) (i := 20) v5.1 ix2 (by omega) (by decide) (by decide) e6
  have l6' := (l4.trans (lst3.eo E5)).trans x6.1
  have sx26 : SXq M2 a M6 := SXq.to (v2.sx w0) (v6.sx w0)
  have p26 : ∀ n, n < T2 → pm M6 g n = pm M2 g n := fun n hn => ((x6.2 n).trans (E5.pm n)).trans (p24 n hn)
  have FA : ((fst9 (wh9 Vl (nt M (a + 7) (k + 3))) (wh9 Vh (nt M (a + 7) (j + 1)))).1 ≠ 0 ∧ fpw M6 a (fst9 (wh9 Vl (nt M (a + 7) (k + 3))) (wh9 Vh (nt M (a + 7) (j + 1))))) ∨ ((fst9 (wh9 Vl (nt M (a + 7) (k + 3))) (wh9 Vh (nt M (a + 7) (j + 1)))).1 = 0 ∧ mI M6 a 16 = 0 ∧ x1 = Vl.2.1 ∧ x2 = Vh.2.1) := by
    rcases y3 with ⟨u1, u2⟩ | ⟨u1, u2, u3⟩
    · have e5 := y5' (by rw [aa4, u2.1]; exact u1)
      rw [fst9_l u1]
      refine Or.inl ⟨u1, ?_⟩
      unfold fpw
      rw [a6, e5, aa4]
      exact u2
    · rw [fst9_r u1]
      unfold fpw
      rw [a6]
      rcases y5 (by rw [aa4]; exact u2) with ⟨q1, q2⟩ | ⟨q1, q2, q3⟩
      · exact Or.inl ⟨q1, q2⟩
      · exact Or.inr ⟨q1, q2, u3, q3⟩
  clear y3 y5 y5'
  have hin : ∀ q, q = a + 99 → q ∈ nums a := fun q hq => by rw [hq]; exact n99
  have c19 : mI M6 (g + 19) W = x1 := by
    rw [f6, if_neg (fun z => by omega), (E5.1.cellL w4 hin (goffx (i := 19) hg (by decide) (by decide)) (fun z => by
      have : g + 19 = a ∨ g + 19 = a + 97 ∨ g + 19 = a + 98 ∨ g + 19 = a + 102 ∨ g + 19 = a + 103 ∨ g + 19 = a + 104 := z
      omega)).1, c4]
  have c20 : mI M6 (g + 20) W = x2 := by rw [f6, if_pos ⟨rfl, rfl⟩]
  have z6 : mI M6 a 16 = 0 → (-1000000000 < x1 ∧ x1 < 1000000000) ∧ -1000000000 < x2 ∧ x2 < 1000000000 := fun z => by
    rw [a6] at z
    obtain ⟨y1, y2⟩ := r5 z
    rw [z4] at y1
    exact ⟨(r3 y1).2, y2⟩
  clear f6 a6 e6 r3 r5
  rw [show mR M6 a 10 = g from L6.2.2.2.2.1, show mR M6 g 14 = g + 19 from (w6.gp hg).2.2.1.2.1, show mR M6 g 15 = g + 20 from (w6.gp hg).2.2.1.2.2.1, c19, c20]
  have b14 : ((0 : Int) ≤ W ∧ (W : Int) < (mN M6 (g + 19) : Int)) := by rw [(w6.gp hg).2.2.2.2.1.2.1.2]; exact W12
  have b15 : ((0 : Int) ≤ W ∧ (W : Int) < (mN M6 (g + 20) : Int)) := by rw [(w6.gp hg).2.2.2.2.1.2.2.1.2]; exact W12
  have hf6 : l6 ≠ 0 → ∃ n : Nat, l10 = n ∧ Ctx M6 a g R W T2 (nrq M a (rvn M a K)) (i + 1) e9 n 0 := fun q => by
    obtain ⟨n, hn, ct⟩ := hf q
    exact ⟨n, hn, ct.gn G26.1 hR sx26 p26⟩
  refine ⟨w6.1.1, (w6.gp hg).1, (w6.gp hg).2.2.2.2.1.2.1.1, b14, (w6.gp hg).2.2.2.2.1.2.2.1.1, b15, fun _ => ⟨b15, b14, trivial⟩, fun v hv => ⟨fun q => ?_, fun q => ?_⟩⟩
  · refine (s_MM_place0 (d := d + 6) L6.1 L6.2.1 hj).mono (fun y M7 h7 => ?_)
    obtain ⟨e7, hy⟩ := h7
    subst e7
    have hy32 : i32 y := by rw [hy]; exact (L6.1 _ _).1
    refine ⟨hy32, L6.1, w6.1.1, (s_MM_stop ⟨by decide, by decide⟩ hy32 L6.1 w6).mono (fun M8 h8 => ?_)⟩
    have v8 := v6.sp h8
    have G8 := (v6.1.sp (R := R) (W := W) (C := C) (Z := Z) h8.1 (fun _ z => z) (fun _ z => z)).2.2.1
    have x8 := lst3.sp (g := g) hg h8
    have rz : (rgf Vl Vh (nt M (a + 7) (k + 3)) (nt M (a + 7) (j + 1))) = (9, nt M (a + 7) (j + 1)) := by
      rcases FA with ⟨u1, u2⟩ | ⟨u1, u2, u3, u4⟩
      · exact absurd (u2.1.symm.trans q.1) u1
      · have z6 := z6 q.1
        unfold rgf
        rw [fst9_r u1, if_neg]
        rw [← u3, ← u4]
        intro z
        rw [if_neg (by rw [w32_id ⟨by omega, by omega⟩]; omega)] at hv
        omega
    refine ⟨h8.1.1, x_vi369 (x9 := x9) eγ (fun z => by rw [h8.2.1] at z; exact absurd z (by decide)) h hS hW (by omega) hi' hi1 v8 (l6'.trans x8.1) hnew hTe hZe hT16 il6 il10 (Or.inl rfl) (fun z => ?_) (fun q => ?_) hfl hV (fun _ => ?_) (fun z => ?_) (fun z => ?_)⟩
    · rw [h8.2.1] at z; exact absurd z (by decide)
    · obtain ⟨n, hn, ct⟩ := hf6 q
      exact ⟨n, hn, ct.gn G8.1 hR (SXq.to (v6.sx w0) (v8.sx w0)) (fun n _ => x8.2 n)⟩
    · have := fr (by rw [rz]; simp)
      rw [this, rz]
      exact ⟨by simp, h8.2.1, by rw [h8.2.2.1, hy, (v6.sx w0).2.1]⟩
    · rw [h8.2.1] at z; exact absurd z (by decide)
    · rw [h8.2.1] at z; exact absurd z (by decide)
  · have ok6 : mI M6 a 16 = 0 → (rgf Vl Vh (nt M (a + 7) (k + 3)) (nt M (a + 7) (j + 1))).1 = 0 ∧ x1 = Vl.2.1 ∧ x2 = Vh.2.1 := fun z => by
      rcases FA with ⟨u1, u2⟩ | ⟨u1, u2, u3, u4⟩
      · exact absurd (u2.1.symm.trans z) u1
      · have z6 := z6 z
        have vn : v ≠ 0 := fun y => q ⟨z, y⟩
        refine ⟨?_, u3, u4⟩
        unfold rgf
        rw [fst9_r u1, if_pos]
        rw [← u3, ← u4]
        by_cases c : x2 < x1
        · rw [if_pos (Or.inl c)] at hv; exact absurd hv vn
        · by_cases c2 : 10000 ≤ w32 (x2 - x1)
          · rw [if_pos (Or.inr c2)] at hv; exact absurd hv vn
          · rw [w32_id ⟨by omega, by omega⟩] at c2
            exact ⟨by omega, by omega⟩
    refine x_vi369 (x9 := x9) eγ (fun z => by obtain ⟨-, o2, o3'⟩ := ok6 z; rw [c19, c20, hx9]; exact ⟨o2, o3', rfl⟩) h hS hW (by omega) hi' hi1 v6 l6' hnew hTe hZe hT16 il6 il10 (Or.inl rfl) (fun z => ?_) hf6 hfl hV (fun z => ?_) (fun z n6 => ?_) (fun z n6 => ?_)
    · have z6 := z6 z
      rw [c19, c20]
      have vn : v ≠ 0 := fun y => q ⟨z, y⟩
      clear hf hf6 q
      refine ⟨fun y => absurd rfl y, ?_, z6.1.1, z6.2.2⟩
      split at hv
      · exact absurd hv vn
      · omega
    · rcases FA with ⟨u1, u2⟩ | ⟨u1, u2, u3, u4⟩
      · have rz : (rgf Vl Vh (nt M (a + 7) (k + 3)) (nt M (a + 7) (j + 1))) = fst9 (wh9 Vl (nt M (a + 7) (k + 3))) (wh9 Vh (nt M (a + 7) (j + 1))) := fst9_l u1
        rw [fr (by rw [rz]; exact u1), rz]
        exact ⟨u1, u2⟩
      · exact absurd u2 z
    · obtain ⟨o1, o2, o3'⟩ := ok6 z
      rw [c19, c20, o2, o3']
      exact flb o1 n6
    · obtain ⟨o1, o2, o3'⟩ := ok6 z
      rw [c19, c20, o2, o3'] at n6
      exact good o1 n6
end VXC
end
section
/-! The reference's vars, exactly. -/
section VXP
variable {w pl nq : Nat → Int} {sm : Nat → Nat → Prop} {nms : List nm9} {k e rg ini N : Nat} {s : st9}
theorem rf9_fl {co tr : Int} {i j : Nat} (h : (rf9 w pl sm nms co tr i j).1 = 0) : (fl w (E9 sm nms co) pl 0 i j).1 = 0 := by
  unfold rf9 at h
  exact (fst9_z h).1
theorem vf9_b (h5 : w (k + 3) = 5) : vf9 w pl sm nms k e rg ini = fst9 (if w ini = 9 then rf9 w pl sm nms 1 1 (ini + 1) e else (0, 0)) (0, 0) := by
  unfold vf9
  rw [if_pos h5, if_pos h5, fst9_r (x := ((0 : Int), (0 : Int))) rfl]
theorem vw9_b (h5 : w (k + 3) = 5) : vw9 w pl nq sm nms k e rg ini = if w ini = 9 then wh9 (vlq w (cv9 w nq sm nms) pl 0 0 (ini + 1) e) (pl (ini + 1)) else (0, 0) := by
  unfold vw9
  simp only []
  rw [if_pos h5, fst9_r (x := ((0 : Int), (0 : Int))) rfl, if_pos h5]
theorem vf9_n (h5 : w (k + 3) ≠ 5) : vf9 w pl sm nms k e rg ini = fst9 (fst9 (fst9 (rf9 w pl sm nms 1 0 (k + 3) rg) (rf9 w pl sm nms 1 0 (rg + 1) ini)) (if w ini = 9 then rf9 w pl sm nms 1 0 (ini + 1) e else (0, 0))) (0, 0) := by
  unfold vf9
  rw [if_neg h5, if_neg h5]
theorem vw9_n (h5 : w (k + 3) ≠ 5) : vw9 w pl nq sm nms k e rg ini = fst9 (rgf (vlq w (cv9 w nq sm nms) pl 0 0 (k + 3) rg) (vlq w (cv9 w nq sm nms) pl 0 0 (rg + 1) ini) (pl (k + 3)) (pl (rg + 1))) (if w ini = 9 then bef 0 (vlq w (cv9 w nq sm nms) pl 0 0 (k + 3) rg).2.1 (vlq w (cv9 w nq sm nms) pl 0 0 (rg + 1) ini).2.1 (pl (ini + 1)) (vlq w (cv9 w nq sm nms) pl 0 0 (ini + 1) e) else (0, 0)) := by
  unfold vw9 rgf bef
  simp only []
  rw [if_neg h5, if_neg h5, if_neg (show ¬ ((0 : Int) ≠ 0) by decide)]
theorem itv_many (h : s.2.1.1 = 12) : (itv w pl nq sm N k e s).2.2 = (5, pl k) := by
  unfold itv
  rw [if_pos h]
theorem itv_known (h : s.2.1.1 ≠ 12) (h2 : fnd9 sm s.1 (k + 1) ≠ none) : (itv w pl nq sm N k e s).2.2 = (2, pl (k + 1)) := by
  unfold itv
  rw [if_neg h, if_pos h2]
theorem itv_f (h : s.2.1.1 ≠ 12) (h2 : fnd9 sm s.1 (k + 1) = none) (hr : nxq w 16 N (k + 3) = rg) (hi : (if w (k + 3) = 5 then k + 4 else nxq w 9 (e - (k + 3)) (k + 3)) = ini) (h3 : (vf9 w pl sm s.1 k e rg ini).1 ≠ 0) : (itv w pl nq sm N k e s).2.2 = vf9 w pl sm s.1 k e rg ini := by
  unfold itv
  simp only [hr, hi]
  rw [if_neg h, if_neg (fun z => z h2), if_pos h3]
theorem itv_w (h : s.2.1.1 ≠ 12) (h2 : fnd9 sm s.1 (k + 1) = none) (hr : nxq w 16 N (k + 3) = rg) (hi : (if w (k + 3) = 5 then k + 4 else nxq w 9 (e - (k + 3)) (k + 3)) = ini) (h3 : (vf9 w pl sm s.1 k e rg ini).1 = 0) (h4 : (vw9 w pl nq sm s.1 k e rg ini).1 ≠ 0) : (itv w pl nq sm N k e s).2.2 = vw9 w pl nq sm s.1 k e rg ini := by
  unfold itv
  simp only [hr, hi]
  rw [if_neg h, if_neg (fun z => z h2), if_neg (fun z => z h3), if_pos h4]
theorem itv_ok (h : s.2.1.1 ≠ 12) (h2 : fnd9 sm s.1 (k + 1) = none) (hr : nxq w 16 N (k + 3) = rg) (hi : (if w (k + 3) = 5 then k + 4 else nxq w 9 (e - (k + 3)) (k + 3)) = ini) (h3 : (vf9 w pl sm s.1 k e rg ini).1 = 0) (h4 : (vw9 w pl nq sm s.1 k e rg ini).1 = 0) : itv w pl nq sm N k e s = (s.1 ++ [(k + 1, 3, (if w (k + 3) = 5 then 1 else 0), (0, 0, 1))], (s.2.1.1 + 1, s.2.1.2), (0, 0)) := by
  unfold itv
  simp only [hr, hi]
  rw [if_neg h, if_neg (fun z => z h2), if_neg (fun z => z h3), if_neg (fun z => z h4)]
end VXP
section VXD
variable {G : mG} {d a g R W C Z T T2 N K : Nat} {M M2 : mM} {E : Eg9} {tg : Int} {s s' : st9}
theorem x_vi185 {gm : gm9} {x9 : Int × Int × Int} {k e i j lo hi : Nat} {l6 : Int} {V Vl Vh : vrs} (eγ : E.2 = txg M a N s.1 gm) (hx9 : x9 = (Vl.2.1, Vh.2.1, if l6 ≠ 0 then V.2.1 else Vl.2.1)) (h : Df M a g N T K R W C Z E tg) (hS : RSq M a g K s.1) (hW : W < 12) (hk : k + 3 < N) (hie : i ≤ e) (heN : e < N) (hj : j + 1 < N) (hki : k ≤ i) (hZ : Z ≤ k) (v2 : vI M a g N T K R W C Z 0 T2 M2) (l2 : lst3 M a M2) (hnew : fdn M a K (k + 1) = -1) (hT2 : T2 ≤ i) (c6 : l6 = 0 ∨ l6 = 1) (z16 : mI M2 a 16 = 0) (cl : Ctx M2 a g R W T2 (nrq M a (rvn M a K)) (k + 3) j lo 0) (ch : Ctx M2 a g R W T2 (nrq M a (rvn M a K)) (j + 1) i hi 0) (fl1 : (fl (wk M a) (E9 (smx M a) s.1 1) (nt M (a + 7)) 0 (k + 3) j).1 = 0) (fl2 : (fl (wk M a) (E9 (smx M a) s.1 1) (nt M (a + 7)) 0 (j + 1) i).1 = 0) (h9 : l6 ≠ 0 → Eo (wk M a) 6 (i + 1) e) (hV : V = vlq (wk M a) (cv9 (wk M a) (nuq M a) (smx M a) s.1) (nt M (a + 7)) 0 0 (i + 1) e) (hVl : Vl = vlq (wk M a) (cv9 (wk M a) (nuq M a) (smx M a) s.1) (nt M (a + 7)) 0 0 (k + 3) j) (hVh : Vh = vlq (wk M a) (cv9 (wk M a) (nuq M a) (smx M a) s.1) (nt M (a + 7)) 0 0 (j + 1) i) (gf : l6 ≠ 0 → (rf9 (wk M a) (nt M (a + 7)) (smx M a) s.1 1 0 (i + 1) e).1 ≠ 0 → s'.2.2 = (rf9 (wk M a) (nt M (a + 7)) (smx M a) s.1 1 0 (i + 1) e)) (fr : (l6 ≠ 0 → (rf9 (wk M a) (nt M (a + 7)) (smx M a) s.1 1 0 (i + 1) e).1 = 0) → (rgf Vl Vh (nt M (a + 7) (k + 3)) (nt M (a + 7) (j + 1))).1 ≠ 0 → s'.2.2 = (rgf Vl Vh (nt M (a + 7) (k + 3)) (nt M (a + 7) (j + 1)))) (flb : (l6 ≠ 0 → (rf9 (wk M a) (nt M (a + 7)) (smx M a) s.1 1 0 (i + 1) e).1 = 0) → (rgf Vl Vh (nt M (a + 7) (k + 3)) (nt M (a + 7) (j + 1))).1 = 0 → l6 ≠ 0 → (bef 0 Vl.2.1 Vh.2.1 (nt M (a + 7) (i + 1)) V).1 ≠ 0 → s'.2.2 = (bef 0 Vl.2.1 Vh.2.1 (nt M (a + 7) (i + 1)) V)) (good : (l6 ≠ 0 → (rf9 (wk M a) (nt M (a + 7)) (smx M a) s.1 1 0 (i + 1) e).1 = 0) → (rgf Vl Vh (nt M (a + 7) (k + 3)) (nt M (a + 7) (j + 1))).1 = 0 → (l6 ≠ 0 → (bef 0 Vl.2.1 Vh.2.1 (nt M (a + 7) (i + 1)) V).1 = 0) → s' = (s.1 ++ [(k + 1, 3, 0, (0, 0, 1))], (W + 1, R, C, if tg = -1 then 0 else 1), (0, 0))) : h_MM_varItem_185 G (d + 7) a k e W 0 i l6 lo j hi M2 (fun M' => mOk M' ∧ itX M a g N (e + 1) s' (gm.1 ++ [x9], gm.2) M') := by
  have hN := h.1.2.1.1.2.2
  have hg := h.1.2.2.2.2.2.1
  have hR := h.2.2.2.2.1.1
  have L2 := v2.1
  have w2 := L2.2.1.1.1
  have iz : i32 (0 : Int) := ⟨by decide, by decide⟩
  have im : i32 (-1 : Int) := ⟨by decide, by decide⟩
  have ik : i32 (k : Int) := i32s (by omega) (by omega)
  have iW : i32 (W : Int) := i32s (by omega) (by omega)
  have ii : i32 (i : Int) := i32s (by omega) (by omega)
  have ij : i32 (j : Int) := i32s (by omega) (by omega)
  have ie : i32 (e : Int) := i32s (by omega) (by omega)
  have i6 : i32 l6 := i32s (by omega) (by omega)
  have ilo : i32 (lo : Int) := by
    obtain ⟨-, f, e', t, t', -⟩ := cl
    have := t.tn.lt
    exact i32s (by omega) (by omega)
  have ihi : i32 (hi : Int) := by
    obtain ⟨-, f, e', t, t', -⟩ := ch
    have := t.tn.lt
    exact i32s (by omega) (by omega)
  have hiN : i < N := by omega
  refine k_MM_varItem_185 L2.1 ik ie iW iz ii i6 ilo ij ihi ⟨fun _ => w2.1.1, fun q => ?_, fun q => ⟨w2.1.1, ?_⟩⟩
  · have z6 : l6 = 0 := q.elim (fun z => z) (fun z => absurd z16 z)
    have n6 : l6 ≠ 0 → (rf9 (wk M a) (nt M (a + 7)) (smx M a) s.1 1 0 (i + 1) e).1 = 0 := fun z => absurd z6 z
    exact x_vi215n (e9 := e) eγ hx9 h hS hW hk hiN (fun z => absurd z6 z) hj v2 l2 hnew (by omega) (by omega) (by omega) i6 im z16 cl ch fl1 fl2 (fun z => absurd z6 z) (fun z => absurd z6 z) hV hVl hVh (fr n6) (flb n6) (good n6)
  · have n6 : l6 ≠ 0 := fun z => q (Or.inl z)
    have eo := h9 n6
    have hlt := eo.pr.1
    rw [show (i : Int) + 1 = ((i + 1 : Nat) : Int) by first | rfl | omega]
    refine x_vrule (d := d) h hS v2 l2 z16 (Or.inl rfl) (by omega) eo heN (fun M3 T3 L3 I3 z3 rz rf => ?_) (fun M3 T3 t1 t2 v3 l3 z3 rz ct f3 => ?_)
    · refine ⟨i32s (by omega) (by omega), L3.1, x_vi215x L3 I3 z3 ?_ ik iW iz ii i6 ilo ihi ij (i32s (by omega) (by omega))⟩
      rw [gf n6 rz]
      exact ⟨rz, rf⟩
    · obtain ⟨G3, sx3, p3⟩ := f3
      have hT := Nat.le_of_lt t1
      exact ⟨i32s (by omega) (by omega), v3.1.1, x_vi215n (e9 := e) eγ hx9 h hS hW hk hiN (fun _ => by omega) hj v3 l3 hnew (by omega) (by omega) (by omega) i6 (i32s (by omega) (by omega)) z3 ((cl.gn G3.1 hR sx3 p3).up hT) ((ch.gn G3.1 hR sx3 p3).up hT) fl1 fl2 (fun _ => ⟨T2, rfl, ct⟩) (fun _ => ⟨eo, rf9_fl rz⟩) hV hVl hVh (fr (fun _ => rz)) (flb (fun _ => rz)) (good (fun _ => rz))⟩
theorem x_vi91 {gm : gm9} {x9 : Int × Int × Int} {k e i j : Nat} {bl : Int} (eγ : E.2 = txg M a N s.1 gm) (hx9 : x9 = (if wk M a (k + 3) = 5 then 0 else (vlq (wk M a) (cv9 (wk M a) (nuq M a) (smx M a) s.1) (nt M (a + 7)) 0 0 (k + 3) j).2.1, if wk M a (k + 3) = 5 then 1 else (vlq (wk M a) (cv9 (wk M a) (nuq M a) (smx M a) s.1) (nt M (a + 7)) 0 0 (j + 1) i).2.1, if wk M a i = 9 then (vlq (wk M a) (cv9 (wk M a) (nuq M a) (smx M a) s.1) (nt M (a + 7)) 0 0 (i + 1) e).2.1 else if wk M a (k + 3) = 5 then 0 else (vlq (wk M a) (cv9 (wk M a) (nuq M a) (smx M a) s.1) (nt M (a + 7)) 0 0 (k + 3) j).2.1)) (h : Df M a g N T K R W C Z E tg) (hS : RSq M a g K s.1) (h16 : mI M a 16 = 0) (hW : W < 12) (hnew : fdn M a K (k + 1) = -1) (heN : e < N) (hT : T ≤ k) (hZ : Z ≤ k) (hb : (bl = 1 ∧ wk M a (k + 3) = 5 ∧ i = k + 4) ∨ (bl = 0 ∧ wk M a (k + 3) ≠ 5 ∧ Eo (wk M a) 6 (k + 3) j ∧ wk M a j = 16 ∧ Eo (wk M a) 6 (j + 1) i)) (hi : (wk M a i ≠ 9 ∧ i = e) ∨ (wk M a i = 9 ∧ Eo (wk M a) 6 (i + 1) e)) (e1 : (vf9 (wk M a) (nt M (a + 7)) (smx M a) s.1 k e j i).1 ≠ 0 → s'.2.2 = (vf9 (wk M a) (nt M (a + 7)) (smx M a) s.1 k e j i)) (e2 : (vf9 (wk M a) (nt M (a + 7)) (smx M a) s.1 k e j i).1 = 0 → (vw9 (wk M a) (nt M (a + 7)) (nuq M a) (smx M a) s.1 k e j i).1 ≠ 0 → s'.2.2 = (vw9 (wk M a) (nt M (a + 7)) (nuq M a) (smx M a) s.1 k e j i)) (e3 : (vf9 (wk M a) (nt M (a + 7)) (smx M a) s.1 k e j i).1 = 0 → (vw9 (wk M a) (nt M (a + 7)) (nuq M a) (smx M a) s.1 k e j i).1 = 0 → s' = (s.1 ++ [(k + 1, 3, bl, (0, 0, 1))], (W + 1, R, C, if tg = -1 then 0 else 1), (0, 0))) : h_MM_varItem_91 G (d + 7) a k e W bl i M (fun M' => mOk M' ∧ itX M a g N (e + 1) s' (gm.1 ++ [x9], gm.2) M') := by
  have hN := h.1.2.1.1.2.2
  have hg := h.1.2.2.2.2.2.1
  have hR := h.2.2.2.2.1.1
  have hL := h.1
  have w := hL.2.1.1.1
  have hie : i ≤ e := by
    rcases hi with ⟨-, z⟩ | ⟨-, z⟩
    · omega
    · have := z.pr.1; omega
  have hki : k + 4 ≤ i := by
    rcases hb with ⟨-, -, z⟩ | ⟨-, -, z1, -, z2⟩
    · omega
    · have := z1.pr.1; have := z2.pr.1; omega
  have h9 : wk M a i = 9 → Eo (wk M a) 6 (i + 1) e := fun z => by
    rcases hi with ⟨y, -⟩ | ⟨-, y⟩
    · exact absurd z y
    · exact y
  have bl01 : bl = 0 ∨ bl = 1 := by
    rcases hb with ⟨z, -⟩ | ⟨z, -⟩
    · exact Or.inr z
    · exact Or.inl z
  have iz : i32 (0 : Int) := ⟨by decide, by decide⟩
  have im : i32 (-1 : Int) := ⟨by decide, by decide⟩
  have ik : i32 (k : Int) := i32s (by omega) (by omega)
  have iW : i32 (W : Int) := i32s (by omega) (by omega)
  have ii : i32 (i : Int) := i32s (by omega) (by omega)
  have ie : i32 (e : Int) := i32s (by omega) (by omega)
  have ib : i32 bl := by rcases bl01 with z | z <;> rw [z] <;> exact ⟨by decide, by decide⟩
  have W12 : ((0 : Int) ≤ W ∧ (W : Int) < ((12 : Nat) : Int)) := by omega
  have hiN : i < N := by omega
  have hkN : k + 3 < N := by omega
  have hZe : Z ≤ e + 1 := by omega
  clear hi
  refine k_MM_varItem_91 hL.1 ik ie iW ib ii ⟨w.1.1, hL.wd (d := d + 6) hiN (fun x hx ix => ⟨ix, hL.1, fun v hv => ⟨w.1.1, ?_⟩⟩)⟩
  rw [show mR M a 10 = g from hL.2.2.2.2.1, show mR M g 13 = g + 18 from (w.gp hg).2.2.1.1, Int.toNat_natCast]
  refine ⟨(w.gp hg).1, (w.gp hg).2.2.2.2.1.1.1, by rw [(w.gp hg).2.2.2.2.1.1.2]; exact W12, bl01, fun M2 e0 => ?_⟩
  obtain ⟨v2, a2⟩ := vI.new h bl01 e0
  have l2 : lst3 M a M2 := (lst3.ui (x := 0) (i := 18) hL ib (by omega) (by decide) (by decide) e0).1
  have L2 := v2.1
  have w2 := L2.2.1.1.1
  have wkE := v2.2.1.wk hg
  have z2 : mI M2 a 16 = 0 := by rw [a2]; exact h16
  have v01 : v = 0 ∨ v = 1 := by split at hv <;> omega
  have v9 : v ≠ 0 → Eo (wk M a) 6 (i + 1) e := fun z => h9 (by
    split at hv
    · rename_i y; exact hx.symm.trans y
    · exact absurd hv z)
  have w9 : v ≠ 0 → wk M a i = 9 := fun z => by
    split at hv
    · rename_i y; exact hx.symm.trans y
    · exact absurd hv z
  have w0 : v = 0 → wk M a i ≠ 9 := fun z y => by
    rw [if_pos (hx.trans y)] at hv
    omega
  have i6 : i32 v := by rcases v01 with z | z <;> rw [z] <;> exact ⟨by decide, by decide⟩
  clear hv hx h9 e0
  rcases hb with ⟨z, h5, -⟩ | ⟨z, h5, j1, j2, j3⟩
  · subst z
    refine ⟨fun y => absurd y (by decide), fun _ => ⟨fun q => ?_, fun q => ?_⟩⟩
    · have z6 : v = 0 := q.elim (fun z => z) (fun z => absurd z2 z)
      have n9 := w0 z6
      exact x_vi215b (e9 := e) eγ (by rw [hx9, if_pos h5, if_pos h5, if_neg n9, if_neg (fun u => u z6)]) h hS hW hkN hiN (fun z => absurd z6 z) v2 l2 hnew (by omega) hZe (by omega) i6 im z2 (fun z => absurd z6 z) (fun z => absurd z6 z) rfl (fun z => absurd z6 z) (fun _ => e3 (by rw [vf9_b h5, if_neg n9]; rfl) (by rw [vw9_b h5, if_neg n9]))
    · have n6 : v ≠ 0 := fun z => q (Or.inl z)
      have y9 := w9 n6
      have eo := v9 n6
      have hlt := eo.pr.1
      have vb : (vf9 (wk M a) (nt M (a + 7)) (smx M a) s.1 k e j i) = fst9 (rf9 (wk M a) (nt M (a + 7)) (smx M a) s.1 1 1 (i + 1) e) (0, 0) := by rw [vf9_b h5, if_pos y9]
      have vc : (vw9 (wk M a) (nt M (a + 7)) (nuq M a) (smx M a) s.1 k e j i) = wh9 (vlq (wk M a) (cv9 (wk M a) (nuq M a) (smx M a) s.1) (nt M (a + 7)) 0 0 (i + 1) e) (nt M (a + 7) (i + 1)) := by rw [vw9_b h5, if_pos y9]
      rw [show (i : Int) + 1 = ((i + 1 : Nat) : Int) by first | rfl | omega]
      refine x_vrule (d := d) h hS v2 l2 z2 (Or.inr rfl) (by omega) eo heN (fun M3 T3 L3 I3 z3 rz rf => ?_) (fun M3 T3 t1 t2 v3 l3 z3 rz ct f3 => ?_)
      · refine ⟨i32s (by omega) (by omega), L3.1, x_vi215x L3 I3 z3 ?_ ik iW ⟨by decide, by decide⟩ ii i6 im im (i32s (by omega) (by omega)) (i32s (by omega) (by omega))⟩
        rw [e1 (by rw [vb, fst9_l rz]; exact rz), vb, fst9_l rz]
        exact ⟨rz, rf⟩
      · have vz : (vf9 (wk M a) (nt M (a + 7)) (smx M a) s.1 k e j i).1 = 0 := by rw [vb, fst9_r rz]
        rw [vc] at e2 e3
        exact ⟨i32s (by omega) (by omega), v3.1.1, x_vi215b (e9 := e) eγ (by rw [hx9, if_pos h5, if_pos h5, if_pos y9, if_pos n6]) h hS hW hkN hiN (fun _ => by omega) v3 l3 hnew (by omega) hZe (by omega) i6 (i32s (by omega) (by omega)) z3 (fun _ => ⟨T, rfl, ct⟩) (fun _ => ⟨eo, rf9_fl rz⟩) rfl (fun _ => e2 vz) (fun z => e3 vz (z n6))⟩
  · subst z
    have p1 := j1.pr.1
    have p3 := j3.pr.1
    have hjN : j < N := by omega
    rw [vf9_n h5] at e1 e2 e3
    rw [vw9_n h5] at e2 e3
    refine ⟨fun _ => ?_, fun y => absurd rfl y⟩
    rw [show (k : Int) + 3 = ((k + 3 : Nat) : Int) by first | rfl | omega]
    refine L2.ub (d := d + 5) (by omega) (by rw [wkE]; exact j1.pr.2.2.2.2.1) hjN (by rw [wkE]; exact j2) (Or.inl rfl) ⟨i32s (by omega) (by omega), L2.1, w2.1.1, ?_⟩
    have iT : i32 (T : Int) := i32s (by omega) (by omega)
    have ij : i32 (j : Int) := i32s (by omega) (by omega)
    refine x_vrule (d := d) h hS v2 l2 z2 (Or.inl rfl) (by omega) j1 hjN (fun M3 T3 L3 I3 z3 rz rf => ?_) (fun M3 T3 t1 t2 v3 l3 z3 rz cl f3 => ?_)
    · refine ⟨iT, L3.1, L3.2.1.1.1.1.1, fun z => absurd z z3, fun _ => x_vi185x L3 I3 z3 ?_ ik ie iW iz ii i6 iT ij im⟩
      rw [fst9_l (x := rf9 (wk M a) (nt M (a + 7)) (smx M a) s.1 1 0 (k + 3) j) rz, fst9_l rz, fst9_l rz] at e1
      rw [e1 rz]
      exact ⟨rz, rf⟩
    rw [fst9_r (x := rf9 (wk M a) (nt M (a + 7)) (smx M a) s.1 1 0 (k + 3) j) rz] at e1 e2 e3
    have L3 := v3.1
    refine ⟨iT, L3.1, L3.2.1.1.1.1.1, fun _ => ?_, fun z => absurd z3 z⟩
    rw [show (j : Int) + 1 = ((j + 1 : Nat) : Int) by first | rfl | omega]
    have iT3 : i32 (T3 : Int) := i32s (by omega) (by omega)
    refine x_vrule (d := d) h hS v3 l3 z3 (Or.inl rfl) (by omega) j3 hiN (fun M4 T4 L4 I4 z4 ry rf => ?_) (fun M4 T4 u1 u2 v4 l4 z4 ry ch f4 => ?_)
    · refine ⟨iT3, L4.1, x_vi185x L4 I4 z4 ?_ ik ie iW iz ii i6 iT ij iT3⟩
      rw [fst9_l (x := rf9 (wk M a) (nt M (a + 7)) (smx M a) s.1 1 0 (j + 1) i) ry, fst9_l ry] at e1
      rw [e1 ry]
      exact ⟨ry, rf⟩
    rw [fst9_r (x := rf9 (wk M a) (nt M (a + 7)) (smx M a) s.1 1 0 (j + 1) i) ry] at e1 e2 e3
    obtain ⟨G4, sx4, p4⟩ := f4
    have hx9' : x9 = ((vlq (wk M a) (cv9 (wk M a) (nuq M a) (smx M a) s.1) (nt M (a + 7)) 0 0 (k + 3) j).2.1, (vlq (wk M a) (cv9 (wk M a) (nuq M a) (smx M a) s.1) (nt M (a + 7)) 0 0 (j + 1) i).2.1, if v ≠ 0 then (vlq (wk M a) (cv9 (wk M a) (nuq M a) (smx M a) s.1) (nt M (a + 7)) 0 0 (i + 1) e).2.1 else (vlq (wk M a) (cv9 (wk M a) (nuq M a) (smx M a) s.1) (nt M (a + 7)) 0 0 (k + 3) j).2.1) := by
      rw [hx9, if_neg h5, if_neg h5]
      by_cases c : wk M a i = 9
      · rw [if_pos c, if_pos (fun y => w0 y c)]
      · rw [if_neg c, if_neg (fun y => c (w9 y))]
    refine ⟨iT3, v4.1.1, x_vi185 eγ hx9' h hS hW hkN hie heN (by omega) (by omega) hZ v4 l4 hnew (by omega) v01 z4 ((cl.gn G4.1 hR sx4 p4).up (Nat.le_of_lt u1)) ch (rf9_fl rz) (rf9_fl ry) v9 rfl rfl rfl (fun n6 fz => ?_) (fun n6 fz => ?_) (fun n6 rz bz => ?_) (fun n6 rz bz => ?_)⟩
    · rw [if_pos (w9 n6), fst9_l fz] at e1
      exact e1 fz
    · have vz : (fst9 (if wk M a i = 9 then (rf9 (wk M a) (nt M (a + 7)) (smx M a) s.1 1 0 (i + 1) e) else (0, 0)) (0, 0)).1 = 0 := by
        by_cases c : wk M a i = 9
        · have : v ≠ 0 := fun y => w0 y c
          rw [if_pos c, fst9_r (n6 this)]
        · rw [if_neg c]; rfl
      have := e2 vz
      rw [fst9_l fz] at this
      exact this fz
    · have vz : (fst9 (if wk M a i = 9 then (rf9 (wk M a) (nt M (a + 7)) (smx M a) s.1 1 0 (i + 1) e) else (0, 0)) (0, 0)).1 = 0 := by
        by_cases c : wk M a i = 9
        · have : v ≠ 0 := fun y => w0 y c
          rw [if_pos c, fst9_r (n6 this)]
        · rw [if_neg c]; rfl
      have := e2 vz
      rw [fst9_r rz, if_pos (w9 bz)] at this
      exact this
    · have vz : (fst9 (if wk M a i = 9 then (rf9 (wk M a) (nt M (a + 7)) (smx M a) s.1 1 0 (i + 1) e) else (0, 0)) (0, 0)).1 = 0 := by
        by_cases c : wk M a i = 9
        · have : v ≠ 0 := fun y => w0 y c
          rw [if_pos c, fst9_r (n6 this)]
        · rw [if_neg c]; rfl
      refine e3 vz ?_
      rw [fst9_r rz]
      by_cases c : wk M a i = 9
      · rw [if_pos c]; exact bz (fun y => w0 y c)
      · rw [if_neg c]
theorem x_MM_varItem {gm : gm9} {k e i : Nat} (eγ : E.2 = txg M a N s.1 gm) (h : Df M a g N T K R W C Z E tg) (hS : RSq M a g K s.1) (hst : s.2.1 = (W, R, C, if tg = -1 then 0 else 1)) (h16 : mI M a 16 = 0) (heN : e < N) (hT : T ≤ k) (hZ : Z ≤ k) (hv : Vs (wk M a) (k + 3) i) (hi : (wk M a i ≠ 9 ∧ i = e) ∨ (wk M a i = 9 ∧ Eo (wk M a) 6 (i + 1) e)) : Cv G y_MM_varItem (d + 8) [vr a, vi k, vi e] M (fun M' => mOk M' ∧ itX M a g N (e + 1) (itv (wk M a) (nt M (a + 7)) (nuq M a) (smx M a) N k e s) (gm.1 ++ [var9 (wk M a) (nt M (a + 7)) (nuq M a) (smx M a) N s.1 k e], gm.2) M') := by
  generalize es : itv (wk M a) (nt M (a + 7)) (nuq M a) (smx M a) N k e s = s'
  have hN := h.1.2.1.1.2.2
  have hg := h.1.2.2.2.2.2.1
  have hBd := h.2.2.2.2.1
  have hL := h.1
  have w := hL.2.1.1.1
  have g12 := h.2.1.2.1
  have hie : i ≤ e := by
    rcases hi with ⟨-, z⟩ | ⟨-, z⟩
    · omega
    · have := z.pr.1; omega
  have hki : k + 4 ≤ i := by
    rcases hv with ⟨-, z⟩ | ⟨-, j, z1, -, z2⟩
    · omega
    · have := z1.pr.1; have := z2.pr.1; omega
  have hlast : i = e ∨ wk M a i = 9 := hi.elim (fun z => Or.inl z.2) (fun z => Or.inr z.1)
  have n9 : wk M a (k + 3) ≠ 5 → ∀ m, k + 3 ≤ m → m < i → wk M a m ≠ 9 := fun z m m1 m2 => by
    rcases hv with ⟨y, -⟩ | ⟨-, j, z1, z2, z3⟩
    · exact absurd y z
    · by_cases q : m < j
      · have := rwd_all z1 m1 q; unfold rwd at this; omega
      · by_cases q2 : m = j
        · rw [q2, z2]; decide
        · have := rwd_all z3 (show j + 1 ≤ m by omega) m2; unfold rwd at this; omega
  have iW : i32 (W : Int) := i32s (by omega) (by omega)
  refine k_MM_varItem hL.1 (i32s (by omega) (by omega)) (i32s (by omega) (by omega)) ⟨w.1.1, ?_⟩
  rw [show mR M a 10 = g from hL.2.2.2.2.1, g12, show (k : Int) + 1 = ((k + 1 : Nat) : Int) by first | rfl | omega]
  refine ⟨(w.gp hg).1, fun q => x_st_it (d := d + 6) (c := 5) (by decide) ⟨by decide, by decide⟩ hL (by omega) (by rw [← es]; exact itv_many (by rw [hst]; show W = 12; omega)), fun q => ?_⟩
  have hW : W < 12 := by omega
  have n12 : s.2.1.1 ≠ 12 := by rw [hst]; show W ≠ 12; omega
  have hK : K ≤ 200 := hL.2.2.1.2.2.2.1
  refine hL.fdx (d := d + 4) (by omega) (fun r r0 r1 rf => ⟨i32s (by omega) (by omega), hL.1, fun q2 => ⟨w.1.1, ?_⟩, fun q2 => ⟨w.1.1, x_st_it (d := d + 6) (c := 2) (by decide) ⟨by decide, by decide⟩ hL (by omega) (by rw [← es]; exact itv_known n12 ((hS.kw rf).2 (by omega)))⟩⟩)
  have hnone := (hS.kw rf).1 (by omega)
  have hnew : fdn M a K (k + 1) = -1 := by rw [← fdn_un rf]; omega
  have hini : (if wk M a (k + 3) = 5 then k + 4 else nxq (wk M a) 9 (e - (k + 3)) (k + 3)) = i := by
    by_cases c : wk M a (k + 3) = 5
    · rw [if_pos c]
      rcases hv with ⟨-, y⟩ | ⟨y, -⟩
      · omega
      · exact absurd c y
    · rw [if_neg c]
      have n9 := n9 c
      rcases hi with ⟨y, z⟩ | ⟨y, -⟩
      · rw [nxq_no (fun m m1 m2 => n9 m m1 (by omega))]; omega
      · exact nxq_at (by omega) (by omega) y (fun m m1 m2 => n9 m m1 m2)
  have hx9 : var9 (wk M a) (nt M (a + 7)) (nuq M a) (smx M a) N s.1 k e = (if wk M a (k + 3) = 5 then 0 else (vlq (wk M a) (cv9 (wk M a) (nuq M a) (smx M a) s.1) (nt M (a + 7)) 0 0 (k + 3) (nxq (wk M a) 16 N (k + 3))).2.1, if wk M a (k + 3) = 5 then 1 else (vlq (wk M a) (cv9 (wk M a) (nuq M a) (smx M a) s.1) (nt M (a + 7)) 0 0 (nxq (wk M a) 16 N (k + 3) + 1) i).2.1, if wk M a i = 9 then (vlq (wk M a) (cv9 (wk M a) (nuq M a) (smx M a) s.1) (nt M (a + 7)) 0 0 (i + 1) e).2.1 else if wk M a (k + 3) = 5 then 0 else (vlq (wk M a) (cv9 (wk M a) (nuq M a) (smx M a) s.1) (nt M (a + 7)) 0 0 (k + 3) (nxq (wk M a) 16 N (k + 3))).2.1) := by
    unfold var9
    simp only [hini]
  have e1 := fun z => (itv_f (nq := nuq M a) n12 hnone rfl hini z).symm.trans (by rw [es])
  have e2 := fun z y => (itv_w (nq := nuq M a) n12 hnone rfl hini z y).symm.trans (by rw [es])
  have e3 := fun z y => es.symm.trans (itv_ok (nq := nuq M a) n12 hnone rfl hini z y)
  rw [hst] at e3
  rw [show mR M a 10 = g from hL.2.2.2.2.1, g12, show (k : Int) + 3 = ((k + 3 : Nat) : Int) by first | rfl | omega]
  refine ⟨(w.gp hg).1, hL.wd (d := d + 6) (by omega) (fun x hx ix => ⟨ix, hL.1, fun v hv' => ⟨fun z => ⟨w.1.1, ?_⟩, fun z => ?_⟩⟩)⟩
  · have x5 : wk M a (k + 3) ≠ 5 := fun y => by
      rw [if_pos (hx.trans y)] at hv'
      omega
    subst z
    refine hL.io (d := d + 5) (by omega) hie heN (n9 x5) hlast ⟨i32s (by omega) (by omega), hL.1, x_vi91 eγ hx9 h hS h16 hW hnew heN hT hZ (Or.inr ⟨rfl, x5, ?_⟩) hi (fun z => (e1 z).symm) (fun z y => (e2 z y).symm) (fun z y => by rw [e3 z y, if_neg x5])⟩
    rcases hv with ⟨y, -⟩ | ⟨-, j, z1, z2, z3⟩
    · exact absurd y x5
    · have p1 := z1.pr.1
      have p3 := z3.pr.1
      rw [nxq_at (w := wk M a) (x := 16) (f := N) (k := k + 3) (e := j) (by omega) (by omega) z2 (fun m m1 m2 => by
        have := rwd_all z1 m1 m2
        unfold rwd at this
        omega)]
      exact ⟨z1, z2, z3⟩
  · have x5 : wk M a (k + 3) = 5 := by
      split at hv'
      · rename_i y; exact hx.symm.trans y
      · exact absurd hv' z
    have i4 : i = k + 4 := by
      rcases hv with ⟨-, y⟩ | ⟨y, -⟩
      · omega
      · exact absurd x5 y
    have v1 : v = 1 := by rw [if_pos (hx.trans x5)] at hv'; exact hv'
    subst v1
    rw [show (k : Int) + 4 = (i : Int) by first | rfl | omega]
    exact x_vi91 eγ hx9 h hS h16 hW hnew heN hT hZ (Or.inl ⟨rfl, x5, i4⟩) hi (fun z => (e1 z).symm) (fun z y => (e2 z y).symm) (fun z y => by rw [e3 z y, if_pos x5])
end VXD
end
