section
/-! The reference's look, exactly. -/
section LVX
variable {G : mG} {d a N g T K : Nat} {M M2 M3 M4 : mM} {nm : Int → Prop} {Q : Int → mM → Prop} {co : Int} {E rv : Nat → Int}
/-- a node is looked at, and the loop goes on or ends -/
theorem x_lkA {nm' : Int → Prop} {n k L : Nat} {u : Nat → Int} (hU : URq M a g N K co E rv) (hco : i32 co) (hw0 : Wd M a) (hF : ∀ M3, laX co M M4 a g N T K n L k u E rv M3 → mI M3 a 16 ≠ 0 → Q 0 M3) (h : LO M a g N T K M4) (hn : n < T) (hk : pks nm' M4 g T n k) (hv : so M4 g n = 1 → (0 ≤ va M4 g n ∧ va M4 g n < N) ∧ wk M a (va M4 g n).toNat = 1) (hL : ln M4 (a + 93) = (L + k : Nat)) (hb : L + k ≤ 65000) (hu : ∀ j, j < k → nt M4 (a + 93) (L + j) = u j) (h01 : ∀ j, j < k → u j = 0 ∨ u j = 1) (hK : ∀ M5, laX co M M4 a g N T K n L k u E rv M5 → mI M5 a 16 = 0 → h_MM_look_32 G (d + 5) a co M5 Q) : Cv G y_MM_lookAt (d + 5) [vr a, vi n, vi co] M4 (fun M5 => mOk M5 ∧ h_MM_look_32 G (d + 5) a co M5 Q) := by
  refine (x_MM_lookAt hU hco hw0 h hn hk hv hL hb hu h01).mono (fun M5 h5 => ⟨h5.1, ?_⟩)
  obtain ⟨o5, h5⟩ := h5
  by_cases z : mI M5 a 16 = 0
  · exact hK M5 h5 z
  · have w5 := h5.1.2.1.2.1.1.1
    refine k_MM_look_32 o5 hco ?_
    rw [r20w w5]
    exact ⟨w5.1.1, (w5.nu n95).1, fun _ => ⟨fun q => absurd q z, fun _ => hF M5 h5 z⟩, fun q => absurd (Or.inr z) q⟩
/-- what the trees stand for: intervals of words -/
def TBx (M : mM) (a g md : Nat) (rs : List (Nat × Nat)) (n e : Nat) : Prop := (∀ r, r ∈ rs → Eo (wk M a) 6 r.1 r.2) ∧ if md = 0 then ∃ i j, rs = [(i, j)] ∧ Tm M M a g 0 0 i j n e else rs.length = md ∧ Tmb M M a g (-1) rs n e
/-- what a node's value becomes -/
def rsw (M : mM) (g : Nat) (rv : Nat → Int) (k : Nat) : Int := if so M g k = 1 then rv (va M g k).toNat else va M g k
/-- no fault; the kinds; the names are resolved -/
def lkE (M : mM) (a g : Nat) (E rv : Nat → Int) (rs : List (Nat × Nat)) (L n e : Nat) (M3 : mM) : Prop := (flr (wk M a) E (nt M (a + 7)) rs).1 = 0 ∧ (∀ j, j < rs.length → nt M3 (a + 93) (L + j) = kdl (wk M a) E rs j) ∧ ∀ k, n ≤ k → k < e → va M3 g k = rsw M g rv k
/-- a pair is a fault -/
def fpw (M3 : mM) (a : Nat) (f : Int × Int) : Prop := mI M3 a 16 = f.1 ∧ mI M3 a 17 = f.2
theorem fst9_l {x y : Int × Int} (h : x.1 ≠ 0) : fst9 x y = x := if_neg h
theorem fst9_r {x y : Int × Int} (h : x.1 = 0) : fst9 x y = y := if_pos h
/-- as many parts as brothers -/
theorem tb_len (h : LO M a g N T K M2) : ∀ {rs : List (Nat × Nat)} {k f n e : Nat}, Tmb M M a g (-1) rs n e → Tn nm M2 g f k n e → 1 ≤ k → rs.length = k
  | [], _, _, _, _, h1, _, _ => h1.elim
  | [r], k, f, n, e, h1, h2, hk => by
    cases f with
    | zero => exact h2.elim
    | succ f =>
      rw [Tn, if_neg (by omega)] at h2
      by_cases c1 : k = 1
      · rw [c1]; rfl
      · rw [if_neg c1] at h2
        obtain ⟨m, q1, -⟩ := h2
        have := (h.2.2.2.1 n).2.2.symm.trans q1
        have := h1.2
        omega
  | r :: r2 :: rs, k, f, n, e, h1, h2, hk => by
    obtain ⟨m', t1, t2, t3⟩ := h1
    cases f with
    | zero => exact h2.elim
    | succ f =>
      rw [Tn, if_neg (by omega)] at h2
      by_cases c1 : k = 1
      · rw [if_pos c1] at h2
        have := (h.2.2.2.1 n).2.2.symm.trans h2.1
        omega
      · rw [if_neg c1] at h2
        obtain ⟨m, q1, -, q3⟩ := h2
        have q1' := (h.2.2.2.1 n).2.2.symm.trans q1
        have em : m = m' := by omega
        subst em
        have := tb_len h t3 q3 (by omega)
        simp only [List.length_cons] at this ⊢
        omega
theorem x_look_run (hU : URq M a g N K co E rv) (hco : i32 co) (hw0 : Wd M a) (hnm : ∀ v, nm v → (0 ≤ v ∧ v < N) ∧ wk M a v.toNat = 1) : ∀ (f md n e Lk L kk : Nat) (M2 : mM) (rs : List (Nat × Nat)), kk = md + (1 - md) → Tn nm M2 g f md n e → TBx M a g md rs n e → (∀ k, n ≤ k → k < e → va M2 g k = va M g k) → e ≤ T → LO M a g N T K M2 → mI M2 a 16 = 0 → ln M2 (a + 95) = (Lk + 2 * kk : Nat) → (∀ j, j < kk → nt M2 (a + 95) (Lk + 2 * (kk - 1 - j)) = ci M g n j ∧ nt M2 (a + 95) (Lk + 2 * (kk - 1 - j) + 1) = 0) → ln M2 (a + 93) = (L : Int) → L ≤ n → Lk ≤ 2 * (n + (T - e)) → (∀ M3, LO M a g N T K M3 → fpw M3 a (flr (wk M a) E (nt M (a + 7)) rs) → mI M3 a 16 ≠ 0 → Q 0 M3) → (∀ M3, lkR co M a g N T K Lk L kk f md n e M2 M3 → lkE M a g E rv rs L n e M3 → h_MM_look_32 G (d + 5) a co M3 Q) → h_MM_look_32 G (d + 5) a co M2 Q := by
  intro f
  induction f with
  | zero => intro md n e Lk L kk M2 rs _ ht; exact ht.elim
  | succ f ih =>
    intro md n e Lk L kk M2 rs hkk ht htb hva he h h16 lk pk lL hLn hLk hF hQ
    obtain ⟨hrs, htb⟩ := htb
    have hT := h.2.1.2.2.2.2.2.2.2
    have ht' := ht
    rw [Tn] at ht'
    have hlt := ht.lt
    by_cases c0 : md = 0
    · subst c0
      have kk1 : kk = 1 := by omega
      subst kk1
      rw [if_pos rfl] at ht'
      obtain ⟨p0, p1⟩ := pk 0 (by omega)
      rw [show Lk + 2 * (1 - 1 - 0) = Lk by omega] at p0 p1
      have pn : nt M2 (a + 95) Lk = (n : Int) := p0
      obtain ⟨-, ht'⟩ := ht'
      rw [if_pos rfl] at htb
      obtain ⟨i, j, rfl, tm⟩ := htb
      have eo : Eo (wk M a) 6 i j := hrs (i, j) (List.mem_singleton.2 rfl)
      have fl1 : flr (wk M a) E (nt M (a + 7)) [(i, j)] = fl (wk M a) E (nt M (a + 7)) 0 i j := by
        show fst9 (fl (wk M a) E (nt M (a + 7)) 0 i j) (0, 0) = _
        unfold fst9
        split
        · rename_i h0; exact (fl_z eo h0).symm
        · rfl
      have kd1 : ∀ y : Int, y = kdq (wk M a) E 0 i j → ∀ t, t < [(i, j)].length → y = kdl (wk M a) E [(i, j)] t := fun y hy t ht => by
        have t0 : t = 0 := by simp at ht; omega
        subst t0
        exact hy
      have so2 : ∀ k, so M2 g k = so M g k := fun k => (h.2.2.2.1 k).1
      have fp2 : fp M2 g n = fp M g n := (h.2.2.2.1 n).2.1
      have tn9 := fun (_ : Unit) => td_node (E := E) _ 0 i j (Nat.le_refl _) (Or.inl ⟨rfl, eo⟩) rfl _ _ _ tm
      unfold lkE at hQ
      rw [fl1] at hF hQ
      rcases ht' with ⟨b1, b2, b3, b4, b5⟩ | ⟨k, b1, b2, b3, b4⟩
      · -- a leaf
        refine s_lk2 (X := Lk) hco h h16 (by omega) lk (by omega) pn p1 (fun _ M5 k5 l5 t5 => ?_) (fun q => absurd (Or.inr (by omega)) q)
        have so5 : so M5 g n = so M2 g n := (k5.1.2.2.2.1 n).1.trans (h.2.2.2.1 n).1.symm
        have fp5 : fp M5 g n = fp M2 g n := (k5.1.2.2.2.1 n).2.1.trans (h.2.2.2.1 n).2.1.symm
        have va5 := k5.2.2.1
        obtain ⟨-, e1, kw, kij, kl, ks, ka, kv, kf, kk9⟩ : fp M g n = -1 ∧ e = n + 1 ∧ ∃ k, (i ≤ k ∧ k < j) ∧ (wk M a k = 1 ∨ wk M a k = 2 ∨ wk M a k = 12 ∨ wk M a k = 13) ∧ so M g n = wk M a k ∧ pm M g n = nt M (a + 7) k ∧ va M g n = nvq M a k ∧ fl (wk M a) E (nt M (a + 7)) 0 i j = (if wk M a k = 1 ∧ E k = -1 then (2, nt M (a + 7) k) else (0, 0)) ∧ kdq (wk M a) E 0 i j = (if wk M a k = 12 ∨ wk M a k = 13 ∨ (wk M a k = 1 ∧ E k = 1) then 1 else 0) := by
          rcases tn9 () with q | ⟨q, -⟩
          · exact q
          · rw [← fp2, b2] at q; omega
        have sw5 : so M5 g n = wk M a kw := by rw [so5, so2, ks]
        have vk5 : so M5 g n = 1 → (va M5 g n).toNat = kw := fun z => by
          rw [va5, hva n (Nat.le_refl _) hlt, kv]
          unfold nvq
          rw [if_pos (by rw [← sw5]; exact z), Int.toNat_natCast]
        refine x_lkA (nm' := nm) (k := 0) (L := L) (u := fun _ => 0) hU hco hw0 (fun M6 h6 z6 => ?_) k5.1 (by omega) (Or.inl ⟨rfl, by rw [fp5]; exact b2, by rw [so5]; exact b3⟩) (fun z => by rw [va5]; exact hnm _ (b5 (so5.symm.trans z))) (by rw [k5.2.2.2.1, lL]; omega) (by omega) (fun j _ => by omega) (fun j _ => by omega) (fun M6 h6 z6 => hQ M6 ?_ ?_)
        · obtain ⟨g1, g2, g3, g4, g5, g6⟩ := h6
          refine hF M6 g1 ?_ z6
          rcases g6 with ⟨y1, y2, y3, y4⟩ | ⟨y1, y2, y3, y4⟩ | ⟨-, y1, -⟩
          · rw [vk5 y3] at y4
            rw [kf, if_pos ⟨by rw [← sw5]; exact y3, y4⟩]
            exact ⟨y1, by rw [y2, ka]⟩
          · rw [sw5] at y3; omega
          · rw [k5.2.1, h16] at y1; exact absurd y1 z6
        rotate_left
        · obtain ⟨g1, g2, g3, g4, g5, g6⟩ := h6
          rcases g6 with ⟨y1, -⟩ | ⟨y1, -⟩ | ⟨yl, y1, y2, y3⟩
          · rw [z6] at y1; exact absurd y1 (by decide)
          · rw [z6] at y1; exact absurd y1 (by decide)
          · refine ⟨?_, fun t ht => ?_, fun k k1 k2 => ?_⟩
            · rw [kf, if_neg]
              rintro ⟨u1, u2⟩
              obtain ⟨-, v2, v3⟩ := y2 (by rw [sw5]; exact u1)
              rw [vk5 (by rw [sw5]; exact u1), u2] at v2
              exact v3 v2.symm
            · have t0 : t = 0 := by simp at ht; omega
              subst t0
              refine kd1 _ ?_ 0 (by simp)
              rw [kk9, Nat.add_zero]
              have yt : tyn (tn M g) (so M5 g n) (va M6 g n) 0 (fun _ => 0) (nt M6 (a + 93) L) := by
                rcases yl with yl | yl
                · exact absurd z6 yl
                · exact yl.2.2.2
              unfold tyn at yt
              rw [sw5] at yt
              by_cases w1 : wk M a kw = 1
              · obtain ⟨-, v2, -⟩ := y2 (by rw [sw5]; exact w1)
                rw [vk5 (by rw [sw5]; exact w1)] at v2
                show nt M6 (a + 93) L = _
                rw [← v2]
                by_cases e1 : E kw = 1
                · rw [if_pos (Or.inr (Or.inr ⟨w1, e1⟩)), e1]
                · rw [if_neg (by omega)]
                  omega
              · rw [if_neg w1] at yt
                by_cases w2 : wk M a kw = 2
                · rw [if_pos w2] at yt
                  show nt M6 (a + 93) L = _
                  rw [yt, if_neg (by omega)]
                · rw [if_neg w2, if_pos (by omega)] at yt
                  show nt M6 (a + 93) L = _
                  rw [yt, if_pos (by omega)]
            · have kn : k = n := by omega
              subst kn
              unfold rsw
              have ya : laE co M M5 a g k 0 (fun _ => 0) (nt M6 (a + 93) L) M6 := yl
              by_cases w1 : so M g k = 1
              · obtain ⟨v1, -, -⟩ := y2 (by rw [so5, so2]; exact w1)
                rw [if_pos w1, v1, va5, hva k (Nat.le_refl _) hlt]
              · rw [if_neg w1]
                rcases ya with ya | ⟨-, -, ya, -⟩
                · exact absurd z6 ya
                · rw [ya k (Or.inr (by rw [so5, so2]; exact w1)), va5, hva k (Nat.le_refl _) hlt]
        obtain ⟨g1, g2, g3, g4, g5, g6⟩ := h6
        have so6 : so M6 g n = so M2 g n := (g1.2.2.2.1 n).1.trans (h.2.2.2.1 n).1.symm
        have fp6 : fp M6 g n = fp M2 g n := (g1.2.2.2.1 n).2.1.trans (h.2.2.2.1 n).2.1.symm
        replace g6 : laE co M M5 a g n 0 (fun _ => 0) (nt M6 (a + 93) L) M6 := by
          rcases g6 with ⟨y1, -⟩ | ⟨y1, -⟩ | ⟨yl, -⟩
          · rw [z6] at y1; exact absurd y1 (by decide)
          · rw [z6] at y1; exact absurd y1 (by decide)
          · exact yl
        rcases g6 with z | ⟨z1, z2, z3, z4⟩
        · exact absurd z6 z
        · rw [so5] at z2 z4
          refine ⟨g1, z6, by rw [g2.1]; exact l5, fun j _ => by rw [g2.2.1, t5], g3, fun j hj => by rw [g4 j hj, k5.2.2.2.2.1], ⟨fun _ => nt M6 (a + 93) L, fun j hj => by rw [show L + j = L by omega], fun _ _ => g5, ?_⟩, fun j hj => ?_⟩
          · rw [Ty, if_pos rfl]
            refine ⟨hlt, g5, Or.inl ⟨b1, by rw [fp6]; exact b2, by rw [so6]; exact b3, fun y => ?_, fun y => z2 (so6.symm.trans y), by rw [so6]; exact z4⟩⟩
            rw [so6] at y
            rw [z3 n (Or.inr (by rw [so5, y]; decide)), va5]
            exact b4 y
          · rw [z3 j (Or.inl (by omega)), va5]
      · -- a node with parts
        have hge := b4.ge
        have so1 : so M2 g n ≠ 1 := fun z => by unfold ari at b2; omega
        obtain ⟨-, rs2, r1, r2, r3, r4, r5, r6, r7⟩ : fp M g n = ((n + 1 : Nat) : Int) ∧ ∃ rs : List (Nat × Nat), rs ≠ [] ∧ (∀ r, r ∈ rs → Eo (wk M a) 6 r.1 r.2) ∧ Tmb M M a g (-1) rs (n + 1) e ∧ (so M g n ≠ 1 ∧ so M g n ≠ 2 ∧ so M g n ≠ 12 ∧ so M g n ≠ 13) ∧ ari (so M g n) rs.length ∧ fl (wk M a) E (nt M (a + 7)) 0 i j = fst9 (flr (wk M a) E (nt M (a + 7)) rs) (kft (gdt (so M g n) rs.length (kdl (wk M a) E rs)) (pm M g n)) ∧ kdq (wk M a) E 0 i j = tyt (so M g n) (kdl (wk M a) E rs) := by
          rcases tn9 () with ⟨q, -⟩ | q
          · rw [← fp2, b3] at q; omega
          · exact q
        have rk : rs2.length = k := tb_len h r3 b4 b1
        refine s_lk2 (X := Lk) hco h h16 (by omega) lk (by omega) pn p1 (fun q => by omega) (fun _ M6 k6 l6 t6 v6 w6 => ?_)
        rw [b3]
        have b46 : Tn nm M6 g f k (n + 1) e := b4.lo h k6.1 (fun j _ _ => k6.2.2.1 j)
        refine s_look126 (X := Lk + 2) hco (by omega) k f (n + 1) e (Lk + 2) M6 b1 b46 he k6.1 l6 (by omega) (fun M7 k7 l7 t7 v7 => ?_)
        have w7 := k7.1.2.1.2.1.1.1
        refine k_MM_look_126 k7.1.2.1.1 hco (i32s (by omega) (by omega)) (i32s (by omega) (by omega)) ⟨fun _ => ⟨w7.1.1, (s_MM_turn (d := d + 4) k7.1.2.1.1 w7 l7 (by omega) b1).mono (fun M8 h8 => ?_)⟩, fun q => absurd (by decide) q⟩
        obtain ⟨m8, l8, t8, u8⟩ := h8
        have k8 := kp.mk k7.1 m8 (fun _ z => z)
        have k68 := k6.trans (k7.trans k8)
        refine ⟨m8.1, ?_⟩
        have b48 : Tn nm M8 g f k (n + 1) e := b4.lo h k68.1 (fun j _ _ => k68.2.2.1 j)
        refine ih k (n + 1) e (Lk + 2) L k M8 rs2 (by omega) b48 ⟨r2, by rw [if_neg (by omega)]; exact ⟨rk, r3⟩⟩ (fun x x1 x2 => by rw [k68.2.2.1, hva x (by omega) x2]) he k68.1 (by rw [k68.2.1]; exact h16) (by rw [l8, l7]) (fun j hj => ?_) (by rw [k68.2.2.2.1]; exact lL) (by omega) (by omega) (fun M9 l9 p9 z9 => hF M9 l9 (by rw [r6, fst9_l (by rw [← p9.1]; exact z9)]; exact p9) z9) (fun M9 h9 x9 => ?_)
        · refine ⟨?_, ?_⟩
          · rw [t8 (k - 1 - j) (by omega), show k - 1 - (k - 1 - j) = j by omega]
            exact (v7 j hj).1
          · rw [u8 _ (fun i hi => by omega)]
            exact (v7 (k - 1 - j) (by omega)).2
        · obtain ⟨g1, g2, g3, g4, g5, g6, ⟨c, gu, g7, g8⟩, g9⟩ := h9
          obtain ⟨x1, x2, x3⟩ := x9
          rw [rk] at x2
          have ceq : ∀ j, j < k → kdl (wk M a) E rs2 j = c j := fun j hj => by rw [← x2 j hj]; exact gu j hj
          have low : ∀ j, j < Lk + 2 → nt M9 (a + 95) j = nt M6 (a + 95) j := fun j hj => by rw [g4 j hj, u8 j (fun i hi => by omega), t7 j hj]
          refine s_lk2 (n := n) (X := Lk) (s := 1) hco g1 g2 (by omega) g3 (by omega) (by rw [low Lk (by omega)]; exact v6) (by rw [low (Lk + 1) (by omega)]; exact w6) (fun _ M10 k10 l10 t10 => ?_) (fun q => absurd (Or.inl rfl) q)
          have so10 : so M10 g n = so M2 g n := (k10.1.2.2.2.1 n).1.trans (h.2.2.2.1 n).1.symm
          have fp10 : fp M10 g n = fp M2 g n := (k10.1.2.2.2.1 n).2.1.trans (h.2.2.2.1 n).2.1.symm
          refine x_lkA (nm' := nmr co M g) (k := k) (L := L) (u := kdl (wk M a) E rs2) hU hco hw0 (fun M11 h11 z11 => ?_) k10.1 (by omega) (Or.inr ⟨b1, by omega, by rw [so10]; exact b2, by rw [fp10]; exact b3, f, e, he, (g8.lo g1 k10.1 (fun j _ _ => k10.2.2.1 j)).tn⟩) (fun z => absurd (so10.symm.trans z) so1) (by rw [k10.2.2.2.1]; exact g5) (by omega) (fun j hj => by rw [k10.2.2.2.2.1]; exact x2 j hj) (fun j hj => by rw [ceq j hj]; exact g7 j hj) (fun M11 h11 z11 => hQ M11 ?_ ?_)
          · obtain ⟨f1, f2, f3, f4, f5, f6⟩ := h11
            refine hF M11 f1 ?_ z11
            rcases f6 with ⟨y1, y2, y3, y4⟩ | ⟨y1, y2, y3, y4⟩ | ⟨-, y1, -⟩
            · exact absurd (so10.symm.trans y3) so1
            · rw [r6, fst9_r x1, rk]
              rw [so10, so2] at y4
              unfold kft
              rw [if_neg y4]
              exact ⟨y1, y2⟩
            · rw [k10.2.1, g2] at y1; exact absurd y1 z11
          rotate_left
          · obtain ⟨f1, f2, f3, f4, f5, f6⟩ := h11
            rcases f6 with ⟨y1, -⟩ | ⟨y1, -⟩ | ⟨yl, y1, -, y3⟩
            · rw [z11] at y1; exact absurd y1 (by decide)
            · rw [z11] at y1; exact absurd y1 (by decide)
            · rw [so10, so2] at y3
              obtain ⟨v1, v2⟩ := y3 r4
              refine ⟨?_, fun t ht => by
                have t0 : t = 0 := by simp at ht; omega
                subst t0
                exact kd1 _ (by rw [r7]; exact v2) 0 ht, fun x y1 y2 => ?_⟩
              · rw [r6, fst9_r x1, rk]
                exact kft_1.mpr v1
              · have ya : va M11 g x = va M10 g x := by
                  rcases yl with yl | ⟨-, -, yl, -⟩
                  · exact absurd z11 yl
                  · exact yl x (Or.inr (by rw [so10]; exact so1))
                rw [ya, k10.2.2.1]
                by_cases xn : x = n
                · subst xn
                  rw [g9 x (Or.inl (by omega)), k68.2.2.1, hva x (Nat.le_refl _) hlt]
                  unfold rsw
                  rw [if_neg (by rw [← so2]; exact so1)]
                · exact x3 x (by omega) y2
          obtain ⟨f1, f2, f3, f4, f5, f6⟩ := h11
          have so11 : so M11 g n = so M2 g n := (f1.2.2.2.1 n).1.trans (h.2.2.2.1 n).1.symm
          have fp11 : fp M11 g n = fp M2 g n := (f1.2.2.2.1 n).2.1.trans (h.2.2.2.1 n).2.1.symm
          replace f6 : laE co M M10 a g n k (kdl (wk M a) E rs2) (nt M11 (a + 93) L) M11 := by
            rcases f6 with ⟨y1, -⟩ | ⟨y1, -⟩ | ⟨yl, -⟩
            · rw [z11] at y1; exact absurd y1 (by decide)
            · rw [z11] at y1; exact absurd y1 (by decide)
            · exact yl
          rcases f6 with z | ⟨z1, z2, z3, z4⟩
          · exact absurd z11 z
          · have va11 : ∀ j, va M11 g j = va M9 g j := fun j => (z3 j (Or.inr (by rw [so10]; exact so1))).trans (k10.2.2.1 j)
            refine ⟨f1, z11, by rw [f2.1]; exact l10, fun j hj => by rw [f2.2.1, t10, low j (by omega), t6 j hj], f3, fun j hj => by rw [f4 j hj, k10.2.2.2.2.1, g6 j hj, k68.2.2.2.2.1], ⟨fun _ => nt M11 (a + 93) L, fun j hj => by rw [show L + j = L by omega], fun _ _ => f5, ?_⟩, fun j hj => ?_⟩
            · rw [Ty, if_pos rfl]
              exact ⟨hlt, f5, Or.inr ⟨k, kdl (wk M a) E rs2, b1, by rw [so11]; exact b2, by rw [fp11]; exact b3, (g8.lo g1 f1 (fun j _ _ => va11 j)).cg (fun j hj => ceq j (by omega)), by rw [so11, ← so10]; exact z4⟩⟩
            · rw [va11, g9 j (by omega), k68.2.2.1]
    · rw [if_neg c0] at ht' htb
      obtain ⟨hlen, htb⟩ := htb
      have kkm : kk = md := by omega
      subst kkm
      by_cases c1 : kk = 1
      · subst c1
        rw [if_pos rfl] at ht'
        obtain ⟨r, rfl⟩ : ∃ r, rs = [r] := by
          cases rs with
          | nil => simp at hlen
          | cons r rs =>
            cases rs with
            | nil => exact ⟨r, rfl⟩
            | cons r2 rs => simp at hlen
        refine ih 0 n e Lk L 1 M2 [r] (by omega) ht'.2 ⟨hrs, by rw [if_pos rfl]; exact ⟨r.1, r.2, rfl, htb.1⟩⟩ hva he h h16 lk pk lL hLn hLk hF (fun M3 h3 x3 => hQ M3 ?_ x3)
        obtain ⟨g1, g2, g3, g4, g5, g6, ⟨u, gu, g7, g8⟩, g9⟩ := h3
        refine ⟨g1, g2, g3, g4, g5, g6, ⟨u, gu, g7, ?_⟩, g9⟩
        rw [Ty, if_neg (by omega), if_pos rfl]
        exact ⟨((g1.2.2.2.1 n).2.2.trans (h.2.2.2.1 n).2.2.symm).trans ht'.1, g8⟩
      · rw [if_neg c1] at ht'
        obtain ⟨m, q1, q2, q3⟩ := ht'
        have l1 := q2.lt
        have l2 := q3.ge
        have hnp : np M g n = (m : Int) := (h.2.2.2.1 n).2.2.symm.trans q1
        obtain ⟨r, r2, rs2, rfl⟩ : ∃ r r2 rs2, rs = r :: r2 :: rs2 := by
          cases rs with
          | nil => simp at hlen; omega
          | cons r rs =>
            cases rs with
            | nil => simp at hlen; omega
            | cons r2 rs => exact ⟨r, r2, rs, rfl⟩
        obtain ⟨m', tb1, tb2, tb3⟩ := htb
        have em : m' = m := by omega
        subst em
        have eor : Eo (wk M a) 6 r.1 r.2 := hrs r (List.mem_cons_self ..)
        have flc : flr (wk M a) E (nt M (a + 7)) (r :: r2 :: rs2) = fst9 (fl (wk M a) E (nt M (a + 7)) 0 r.1 r.2) (flr (wk M a) E (nt M (a + 7)) (r2 :: rs2)) := rfl
        have fl1 : flr (wk M a) E (nt M (a + 7)) [r] = fl (wk M a) E (nt M (a + 7)) 0 r.1 r.2 := by
          show fst9 (fl (wk M a) E (nt M (a + 7)) 0 r.1 r.2) (0, 0) = _
          unfold fst9
          split
          · rename_i h0; exact (fl_z eor h0).symm
          · rfl
        refine ih 0 n m' (Lk + 2 * (kk - 1)) L 1 M2 [r] (by omega) q2 ⟨fun x hx => by rw [List.mem_singleton.1 hx]; exact eor, by rw [if_pos rfl]; exact ⟨r.1, r.2, rfl, tb1⟩⟩ (fun x x1 x2 => hva x x1 (by omega)) (by omega) h h16 (by rw [lk]; omega) (fun j hj => ?_) lL hLn (by omega) (fun M3 l3 p3 z3 => hF M3 l3 (by rw [flc, fst9_l (by rw [← fl1, ← p3.1]; exact z3), ← fl1]; exact p3) z3) (fun M3 h3 x3 => ?_)
        · have : j = 0 := by omega
          subst this
          have := pk 0 (by omega)
          rw [show Lk + 2 * (kk - 1) + 2 * (1 - 1 - 0) = Lk + 2 * (kk - 1 - 0) by omega]
          exact this
        · obtain ⟨g1, g2, g3, g4, g5, g6, ⟨u, gu, g7, g8⟩, g9⟩ := h3
          obtain ⟨x1, x2, x3⟩ := x3
          rw [fl1] at x1
          refine ih (kk - 1) m' e Lk (L + 1) (kk - 1) M3 (r2 :: rs2) (by omega) (q3.lo h g1 (fun j j1 _ => g9 j (by omega))) ⟨fun x hx => hrs x (List.mem_cons_of_mem _ hx), by rw [if_neg (by omega)]; exact ⟨by simp only [List.length_cons] at hlen ⊢; omega, tb3⟩⟩ (fun x y1 y2 => by rw [g9 x (by omega), hva x (by omega) y2]) he g1 g2 g3 (fun j hj => ?_) g5 (by omega) (by omega) (fun M4 l4 p4 z4 => hF M4 l4 (by rw [flc, fst9_r x1]; exact p4) z4) (fun M4 h4 x4 => hQ M4 ?_ ?_)
          · have := pk (j + 1) (by omega)
            rw [ci_succ hnp, show Lk + 2 * (kk - 1 - (j + 1)) = Lk + 2 * (kk - 1 - 1 - j) by omega] at this
            rw [g4 _ (by omega), g4 _ (by omega)]
            exact this
          · obtain ⟨f1, f2, f3, f4, f5, f6, ⟨v, fu, f7, f8⟩, f9⟩ := h4
            refine ⟨f1, f2, f3, fun j hj => by rw [f4 j hj, g4 j (by omega)], by rw [f5]; omega, fun j hj => by rw [f6 j (by omega), g6 j hj], ⟨fun j => if j = 0 then u 0 else v (j - 1), fun j hj => ?_, fun j hj => ?_, ?_⟩, fun j hj => by rw [f9 j (by omega), g9 j (by omega)]⟩
            · show nt M4 (a + 93) (L + j) = if j = 0 then u 0 else v (j - 1)
              by_cases z : j = 0
              · rw [if_pos z, z, f6 (L + 0) (by omega)]; exact gu 0 (by omega)
              · rw [if_neg z, ← fu (j - 1) (by omega), show L + 1 + (j - 1) = L + j by omega]
            · show (if j = 0 then u 0 else v (j - 1)) = 0 ∨ (if j = 0 then u 0 else v (j - 1)) = 1
              by_cases z : j = 0
              · rw [if_pos z]; exact g7 0 (by omega)
              · rw [if_neg z]; exact f7 (j - 1) (by omega)
            · rw [Ty, if_neg (by omega), if_neg (by omega)]
              refine ⟨m', ((f1.2.2.2.1 n).2.2.trans (h.2.2.2.1 n).2.2.symm).trans q1, (g8.lo g1 f1 (fun j _ j2 => f9 j (by omega))).cg (fun j hj => ?_), f8.cg (fun j hj => ?_)⟩
              · have : j = 0 := by omega
                rw [this, if_pos rfl]
              · rw [if_neg (by omega), show j + 1 - 1 = j by omega]
          · obtain ⟨f1, f2, f3, f4, f5, f6, -, f9⟩ := h4
            obtain ⟨y1, y2, y3⟩ := x4
            refine ⟨by rw [flc, fst9_r x1]; exact y1, fun t ht => ?_, fun x z1 z2 => ?_⟩
            · cases t with
              | zero =>
                rw [f6 (L + 0) (by omega)]
                exact x2 0 (by simp)
              | succ t =>
                have := y2 t (by simp only [List.length_cons] at ht ⊢; omega)
                rw [show L + (t + 1) = L + 1 + t by omega, this]
                rfl
            · by_cases c : x < m'
              · rw [f9 x (Or.inl c)]; exact x3 x z1 c
              · exact y3 x (by omega) z2
end LVX
end
section
/-! The reference's look, exactly: the whole. -/
section LWX
variable {G : mG} {d a N g T K : Nat} {M : mM} {nm : Int → Prop} {co : Int} {E rv : Nat → Int}
/-- the fault, or the kind; the names are resolved -/
def lkX (co : Int) (M : mM) (a g N T K : Nat) (E rv : Nat → Int) (i j n e : Nat) (r : Int) (M3 : mM) : Prop := lkQ co M a g N T K n e r M3 ∧ (mI M a 16 ≠ 0 ∨ (mI M3 a 16 ≠ 0 ∧ fpw M3 a (fl (wk M a) E (nt M (a + 7)) 0 i j)) ∨ (mI M3 a 16 = 0 ∧ (fl (wk M a) E (nt M (a + 7)) 0 i j).1 = 0 ∧ r = kdq (wk M a) E 0 i j ∧ ∀ k, n ≤ k → k < e → va M3 g k = rsw M g rv k))
theorem x_MM_look {n e i j : Nat} (hU : URq M a g N K co E rv) (hco : i32 co) (hnm : ∀ v, nm v → (0 ≤ v ∧ v < N) ∧ wk M a v.toNat = 1) (eo : Eo (wk M a) 6 i j) (tm : Tm M M a g 0 0 i j n e) (h : Lc M a g N T K) (ht : To nm M g 0 n e) (he : e ≤ T) : Ci G y_MM_look (d + 6) [vr a, vi n, vi co] M (lkX co M a g N T K E rv i j n e) := by
  obtain ⟨hO, hw, -, -, -, hg, -, hT⟩ := id h
  have w := hw.1.1
  obtain ⟨f, ht⟩ := ht
  have hlt := ht.lt
  have r19 : ∀ {M3 : mM}, Wd M3 a → mR M3 a 19 = a + 93 := fun w => w.1.2.2.2.2.1.2.2.2.2.1
  have h0 := LO.refl h
  refine k_MM_look hO (i32s (by omega) (by omega)) hco ?_
  rw [r20w w]
  refine ⟨w.1.1, (w.nu n95).1, fun M3 e3 => ?_⟩
  have b95 : 0 ≤ ln M (a + 95) := (w.nu n95).2.2.2.1.1
  obtain ⟨m3, l3, -, -⟩ := mv_set hO w n95 (v := 0) (by omega) b95 e3
  have k3 := kp.mk h0 m3 (fun _ z => z)
  have w3 := k3.1.2.1.2.1.1.1
  rw [r19 w3]
  refine ⟨(w3.nu n93).1, fun M6 e6 => ?_⟩
  have b93 : 0 ≤ ln M3 (a + 93) := (w3.nu n93).2.2.2.1.1
  obtain ⟨m6, l6, -, -⟩ := mv_set m3.1 w3 n93 (v := 0) (by omega) b93 e6
  have w6 := m6.2.1
  have f6 := (m6.fld w3 (fun q hq => by rw [hq]; exact n93) (fun hq => hq)).1
  have s7 := m6.lst (tL_in (a := a) (q := g + 7) hg (tLk7 g)) (by omega)
  have L6 : LO M a g N T K M6 := k3.1.step m6 (fun q hq => Or.inl hq) (fun x hx => hx.elim) s7.1 (fun i _ _ => by rw [f6])
  have v6 : ∀ k, va M6 g k = va M g k := fun k => (s7.2.1 k).trans (k3.2.2.1 k)
  have x6 : ln M6 (a + 95) = ((0 : Nat) : Int) := by rw [(m6.lst n95 (by omega)).1, l3]; rfl
  rw [r20w w6]
  refine ⟨(w6.nu n95).1, (s_lk_push (i32s (by omega) (by omega)) L6 x6 (by omega)).mono (fun M7 h7 => ?_)⟩
  obtain ⟨o7, k7, l7, t7, v7⟩ := h7
  have w7 := k7.1.2.1.2.1.1.1
  rw [r20w w7]
  refine ⟨o7, w7.1.1, (w7.nu n95).1, (s_lk_push (i32s (by omega) (by omega)) k7.1 l7 (by omega)).mono (fun M8 h8 => ?_)⟩
  obtain ⟨o8, k8, l8, t8, v8⟩ := h8
  have w8 := k8.1.2.1.2.1.1.1
  have k68 := k7.trans k8
  have va8 : ∀ k, va M8 g k = va M g k := fun k => (k68.2.2.1 k).trans (v6 k)
  refine ⟨o8, ?_⟩
  have fl1 : flr (wk M a) E (nt M (a + 7)) [(i, j)] = fl (wk M a) E (nt M (a + 7)) 0 i j := by
    show fst9 (fl (wk M a) E (nt M (a + 7)) 0 i j) (0, 0) = _
    unfold fst9
    split
    · rename_i h0; exact (fl_z eo h0).symm
    · rfl
  have f16 : mI M8 a 16 = mI M a 16 := by rw [k68.2.1, f6, k3.2.1]
  by_cases z : mI M8 a 16 = 0
  · refine x_look_run (nm := nm) hU hco w hnm f 0 n e 0 0 1 M8 [(i, j)] rfl (ht.lo h0 k8.1 (fun k _ _ => va8 k)) ⟨fun r hr => by rw [List.mem_singleton.1 hr]; exact eo, by rw [if_pos rfl]; exact ⟨i, j, rfl, tm⟩⟩ (fun k _ _ => va8 k) he k8.1 z l8 (fun j hj => ?_) (by rw [k68.2.2.2.1, l6]; rfl) (by omega) (by omega) (fun M3 h3 p3 z3 => ⟨⟨h3, Or.inl rfl, Or.inl z3⟩, Or.inr (Or.inl ⟨z3, by rw [← fl1]; exact p3⟩)⟩) (fun M9 h9 x9 => ?_)
    · have : j = 0 := by omega
      subst this
      exact ⟨(t8 0 (by omega)).trans v7, v8⟩
    · obtain ⟨g1, g2, g3, g4, g5, g6, ⟨u, gu, g7, g8⟩, g9⟩ := h9
      have w9 := g1.2.1.2.1.1.1
      have g3' : mI M9 (a + 95) 1 = 0 := g3
      refine k_MM_look_32 g1.2.1.1 hco ?_
      rw [r20w w9, r19 w9, g3', g2]
      refine ⟨w9.1.1, (w9.nu n95).1, fun _ => ⟨fun _ => ⟨(w9.nu n93).1, (s_MN_last g1.2.1.1 (w9.nu n93) (by rw [g5]; omega)).mono (fun x M10 h10 => ?_)⟩, fun q => absurd rfl q⟩, fun q => absurd (Or.inl (by omega)) q⟩
      obtain ⟨e10, hx⟩ := h10
      subst e10
      refine ⟨by rw [hx]; exact (g1.2.1.1 _ _).1, g1.2.1.1, fun v hv => ⟨⟨g1, by split at hv <;> omega, Or.inr ⟨g2, ⟨f, g8.cg (fun j hj => ?_)⟩, fun j hj => (g9 j hj).trans (va8 j)⟩⟩, Or.inr (Or.inr ⟨g2, by rw [← fl1]; exact x9.1, ?_, x9.2.2⟩)⟩⟩
      rotate_left
      · have q0 := x9.2.1 0 (by simp)
        rw [g5] at hx
        have hx' : x = kdq (wk M a) E 0 i j := hx.trans q0
        rw [← hx']
        have u0 := gu 0 (by omega)
        have u1 := g7 0 (by omega)
        have hx2 : x = u 0 := hx.trans u0
        split at hv <;> omega
      have u0 := gu 0 (by omega)
      have u1 := g7 0 (by omega)
      rw [g5] at hx
      have hx' : x = u 0 := hx.trans u0
      rw [show j = 0 by omega]
      split at hv <;> omega
  · refine k_MM_look_32 o8 hco ?_
    rw [r20w w8]
    exact ⟨w8.1.1, (w8.nu n95).1, fun _ => ⟨fun q => absurd q z, fun _ => ⟨⟨k8.1, Or.inl rfl, Or.inl z⟩, Or.inl (by rw [← f16]; exact z)⟩⟩, fun q => absurd (Or.inr z) q⟩
end LWX
end
section
/-! The reference's values, exactly: divisor, pushFraction, reckon, best. -/
section RKX
variable {G : mG} {d a V : Nat} {M : mM}
/-- a value has been reckoned, or a fault told: v -/
def rkX (M : mM) (a V : Nat) (t : Int) (v : vrs) (M' : mM) : Prop := rkQ M a V t M' ∧ ((v.1 ≠ 0 ∧ mI M' a 16 = v.1 ∧ mI M' a 17 = v.2.1) ∨ (mI M' a 16 = mI M a 16 ∧ v = vr9 t (mL M' (a + 97) V) (mL M' (a + 98) V)))
theorem psQ.rkx {t A B : Int} {v : vrs} {M' : mM} (h : psQ M a V A B M') (hv : vok t A B) (e : v = vr9 t A B) : rkX M a V t v M' := by
  refine ⟨h.rk hv, Or.inr ⟨h.2.2.1 16 (by omega), ?_⟩⟩
  rw [h.2.2.2.1 V, h.2.2.2.2 V, if_pos rfl, if_pos rfl]
  exact e
theorem st_rkx {t c p : Int} {M' : mM} (hc : c ≠ 0) (h : Mv (fun _ => False) (fun x => x = a) M a M' ∧ mI M' a 16 = c ∧ mI M' a 17 = p ∧ ∀ i, i ≠ 16 → i ≠ 17 → mI M' a i = mI M a i) (w : Wd M a) : rkX M a V t (c, p, 0) M' := ⟨st_rk hc h w, Or.inl ⟨hc, h.2.1, h.2.2.1⟩⟩
theorem gcd_st {x y : Int} (hx : 0 ≤ x) (hy : 0 < y) : Int.gcd y (x % y) = Int.gcd x y := by
  obtain ⟨p, rfl⟩ : ∃ p : Nat, x = p := ⟨x.toNat, by omega⟩
  obtain ⟨q, rfl⟩ : ∃ q : Nat, y = q := ⟨y.toNat, by omega⟩
  have e : (p : Int) % (q : Int) = ((p % q : Nat) : Int) := rfl
  rw [e, Int.gcd_natCast_natCast, Int.gcd_natCast_natCast, Nat.gcd_comm p q, Nat.gcd_rec q p, Nat.gcd_comm]
theorem x_MM_divisor {A B : Int} (hA : -9223372036854775807 ≤ A ∧ A ≤ 9223372036854775807) (hB : 0 < B ∧ i64 B) (hO : mOk M) : Cj G y_MM_divisor d [vl A, vl B] M (fun x M' => M' = M ∧ (1 ≤ x ∧ x ≤ B ∧ x ∣ A ∧ x ∣ B) ∧ x = (Int.gcd A B : Int)) := by
  refine k_MM_divisor hO ⟨by omega, by omega⟩ hB.2 (fun v hv => ?_)
  have cz : ∀ z : Int, (0 ≤ cmpL z 0 ↔ 0 ≤ z) ∧ (cmpL z 0 ≤ 0 ↔ z ≤ 0) := fun z => by unfold cmpL; split <;> (try split) <;> omega
  have hg : Int.gcd v B = Int.gcd A B := by
    split at hv
    · rw [hv]
    · rw [hv, Int.neg_gcd]
  have hv' : 0 ≤ v ∧ i64 v ∧ ∀ x : Int, x ∣ v → x ∣ A := by
    by_cases q : 0 ≤ A
    · rw [if_pos ((cz A).1.2 q)] at hv
      subst hv
      exact ⟨q, ⟨by omega, by omega⟩, fun x hx => hx⟩
    · rw [if_neg (fun w => q ((cz A).1.1 w))] at hv
      subst hv
      exact ⟨by omega, ⟨by omega, by omega⟩, fun x hx => Int.dvd_neg.1 hx⟩
  suffices H : ∀ (c : Nat) (x y : Int), y ≤ c → 0 ≤ y → 0 ≤ x → 0 < x + y → i64 x → i64 y → (y = 0 → x ≤ B) → y ≤ B → (∀ z : Int, z ∣ x → z ∣ y → z ∣ A ∧ z ∣ B) → Int.gcd x y = Int.gcd A B → h_MM_divisor_17 G d x y M (fun x M' => M' = M ∧ (1 ≤ x ∧ x ≤ B ∧ x ∣ A ∧ x ∣ B) ∧ x = (Int.gcd A B : Int)) from
    H B.toNat v B (by omega) (by omega) hv'.1 (by omega) hv'.2.1 hB.2 (by omega) (by omega) (fun z z1 z2 => ⟨hv'.2.2 z z1, z2⟩) hg
  intro c
  induction c with
  | zero =>
    intro x y h1 h2 h3 h4 h5 h6 h7 h8 h9 h10
    have y0 : y = 0 := by omega
    refine k_MM_divisor_17 hO h5 h6 ⟨fun _ => ⟨rfl, ⟨by omega, h7 y0, ?_⟩, ?_⟩, fun q => absurd ((cz y).2.2 (by omega)) q⟩
    · exact h9 x (Int.dvd_refl x) (by rw [y0]; exact Int.dvd_zero x)
    · rw [← h10, y0, Int.gcd_zero_right]; omega
  | succ c ih =>
    intro x y h1 h2 h3 h4 h5 h6 h7 h8 h9 h10
    refine k_MM_divisor_17 hO h5 h6 ⟨fun q => ?_, fun q => ?_⟩
    · have y0 : y = 0 := by have := (cz y).2.1 q; omega
      exact ⟨rfl, ⟨by omega, h7 y0, h9 x (Int.dvd_refl x) (by rw [y0]; exact Int.dvd_zero x)⟩, by rw [← h10, y0, Int.gcd_zero_right]; omega⟩
    · have yp : 0 < y := by
        by_cases w : y ≤ 0
        · exact absurd ((cz y).2.2 w) q
        · omega
      have e1 : Int.tmod x y = x % y := Int.tmod_eq_emod_of_nonneg h3
      have b1 := Int.emod_nonneg x (show y ≠ 0 by omega)
      have b2 := Int.emod_lt_of_pos x yp
      refine ⟨by omega, ?_⟩
      rw [e1]
      refine ih y (x % y) (by omega) b1 (by omega) (by omega) h6 ⟨by omega, by have := h6.2; omega⟩ (fun _ => h8) (by omega) (fun z z1 z2 => h9 z ?_ z1) (by rw [gcd_st h3 yp]; exact h10)
      have := Int.mul_ediv_add_emod x y
      rw [← this]
      exact Int.dvd_add (Int.dvd_trans z1 (Int.dvd_mul_right y _)) z2
theorem x_MM_pushFraction {A B p : Int} (hA : -9223372036854775807 ≤ A ∧ A ≤ 9223372036854775807) (hB : 0 < B ∧ i64 B) (hp : i32 p) (hO : mOk M) (h : Wd M a) (hV : mI M a 23 = (V : Int)) (hb : V < 16400) : Cv G y_MM_pushFraction (d + 1) [vr a, vl A, vl B, vi p] M (fun M' => mOk M' ∧ rkX M a V 0 (vst A B p) M') := by
  refine Cv.mono (Q := rkX M a V 0 (vst A B p)) ?_ (fun M' t => ⟨t.1.1.1, t⟩)
  refine k_MM_pushFraction hO ⟨by omega, by omega⟩ hB.2 hp ((x_MM_divisor hA hB hO).mono (fun x M1 h1 => ?_))
  obtain ⟨e1, ⟨x1, x2, ⟨c, hc⟩, ⟨e, he⟩⟩, hgc⟩ := h1
  subst e1
  have dA : Int.tdiv A x = c := by rw [hc]; exact Int.mul_tdiv_cancel_left c (by omega)
  have dB : Int.tdiv B x = e := by rw [he]; exact Int.mul_tdiv_cancel_left e (by omega)
  have c1 : 0 ≤ c → c ≤ A := fun y => by
    have := Int.mul_le_mul_of_nonneg_right x1 y
    rw [← hc] at this
    omega
  have c2 : c ≤ 0 → A ≤ c := fun y => by
    have := Int.mul_le_mul_of_nonneg_right x1 (show 0 ≤ -c by omega)
    rw [Int.mul_neg, Int.mul_neg, ← hc] at this
    omega
  have e0 : 0 < e := by
    by_cases y : 0 < e
    · exact y
    · have := Int.mul_le_mul_of_nonneg_left (show e ≤ 0 by omega) (show 0 ≤ x by omega)
      rw [← he] at this
      omega
  have e1 : e ≤ B := by
    have := Int.mul_le_mul_of_nonneg_right x1 (show 0 ≤ e by omega)
    rw [← he] at this
    omega
  have ic : i64 c := ⟨by omega, by omega⟩
  have ie : i64 e := ⟨by omega, by have := hB.2.2; omega⟩
  have ev : vst A B p = if 1000000000 ≤ c ∨ c ≤ -1000000000 ∨ 1000000000 ≤ e then (6, p, 0) else (0, c, e) := by
    unfold vst
    rw [← hgc]
    have cA : A / x = c := by rw [hc]; exact Int.mul_ediv_cancel_left c (by omega)
    have cB : B / x = e := by rw [he]; exact Int.mul_ediv_cancel_left e (by omega)
    rw [cA, cB]
  have q1 := (cmpz c 1000000000).1
  have q2 := (cmpz c (-1000000000)).2.1
  have q3 := (cmpz e 1000000000).2.2.1
  rw [dA, dB]
  refine ⟨⟨by omega, by have := hB.2.2; omega⟩, hO, by omega, by omega, ic, fun _ _ => ie, fun q => ⟨h.1.1, (s_MM_stop ⟨by omega, by omega⟩ hp hO h).mono (fun M2 h2 => ?_)⟩, fun q => ⟨h.1.1, (s_MM_push ic ie hO h hV hb).mono (fun M2 h2 => ⟨h2.1, h2.2.rkx (Or.inl ?_) ?_⟩)⟩⟩
  · obtain ⟨m2, f1, f2, f3⟩ := id h2
    refine ⟨m2.1, m2.2.1.1.1, (s_MM_push ic ie m2.1 m2.2.1 (by rw [f3 23 (by omega) (by omega)]; exact hV) hb).mono (fun M3 h3 => ⟨h3.1, ?_⟩)⟩
    obtain ⟨k1, k2, k3, -⟩ := st_rk (V := V) (t := 0) (by omega) h2 h
    obtain ⟨g1, g2, g3, g4, g5⟩ := h3.2
    rw [q1, q2, q3] at q
    rw [ev, if_pos (by omega)]
    exact ⟨⟨k1.trans g1, fun i i1 i2 i3 => (g3 i i3).trans (k2 i i1 i2 i3), fun k hk => ⟨by rw [g4, if_neg (by omega)]; exact (k3 k hk).1, by rw [g5, if_neg (by omega)]; exact (k3 k hk).2⟩, Or.inl (by rw [g3 16 (by omega), f1]; decide)⟩, Or.inl ⟨by simp, by rw [g3 16 (by omega), f1], by rw [g3 17 (by omega), f2]⟩⟩
  · rw [q1, q2, q3] at q
    omega
  · rw [q1, q2, q3] at q
    rw [ev, if_neg (by omega)]
    rfl
theorem x_MM_reckon {s A B C D p : Int} (hs : 24 ≤ s ∧ s ≤ 28) (h1 : vok 0 A B) (h2 : vok 0 C D) (hp : i32 p) (hO : mOk M) (h : Wd M a) (hV : mI M a 23 = (V : Int)) (hb : V < 16400) : Cv G y_MM_reckon (d + 2) [vr a, vi s, vl A, vl B, vl C, vl D, vi p] M (fun M' => mOk M' ∧ rkX M a V 0 (vop s A B C D p) M') := by
  refine Cv.mono (Q := rkX M a V 0 (vop s A B C D p)) ?_ (fun M' t => ⟨t.1.1.1, t⟩)
  have a1 : -1000000000 < A ∧ A < 1000000000 ∧ 1 ≤ B ∧ B < 1000000000 := by unfold vok at h1; omega
  have a2 : -1000000000 < C ∧ C < 1000000000 ∧ 1 ≤ D ∧ D < 1000000000 := by unfold vok at h2; omega
  have mAD := mul9 (x := A) (y := D) ⟨a1.1, a1.2.1⟩ ⟨by omega, by omega⟩
  have mCB := mul9 (x := C) (y := B) ⟨a2.1, a2.2.1⟩ ⟨by omega, by omega⟩
  have mAC := mul9 (x := A) (y := C) ⟨a1.1, a1.2.1⟩ ⟨by omega, by omega⟩
  have mBD := mul9 (x := B) (y := D) ⟨by omega, by omega⟩ ⟨by omega, by omega⟩
  have pBD : 0 < B * D := Int.mul_pos (by omega) (by omega)
  have iBD : 0 < B * D ∧ i64 (B * D) := ⟨pBD, by omega, by omega⟩
  have stp : ∀ {c : Int}, (c = 7 ∨ c = 8) → vop s A B C D p = (c, p, 0) → Cv G y_MM_stop (d + 1) [vr a, vi c, vi p] M (fun M' => mOk M' ∧ rkX M a V 0 (vop s A B C D p) M') := fun {c} hc ec => (s_MM_stop ⟨by omega, by omega⟩ hp hO h).mono (fun M2 h2 => ⟨h2.1.1, by rw [ec]; exact st_rkx (by omega) h2 h⟩)
  have pf : ∀ {U W : Int}, (-9223372036854775807 ≤ U ∧ U ≤ 9223372036854775807) → (0 < W ∧ i64 W) → vop s A B C D p = vst U W p → Cv G y_MM_pushFraction (d + 1) [vr a, vl U, vl W, vi p] M (fun M' => mOk M' ∧ rkX M a V 0 (vop s A B C D p) M') := fun hU hW e => by rw [e]; exact x_MM_pushFraction (d := d) hU hW hp hO h hV hb
  have cz0 := (cmpz C 0).2.2.2.1
  have cz1 := (cmpz C 0).1
  have cz2 := (cmpz C 0).2.2.2.2
  have bz := (cmpz B 1).2.2.2.1
  have dz := (cmpz D 1).2.2.2.1
  refine k_MM_reckon hO ⟨by omega, by omega⟩ ⟨by omega, by omega⟩ ⟨by omega, by omega⟩ ⟨by omega, by omega⟩ ⟨by omega, by omega⟩ hp ⟨fun e1 => ⟨h.1.1, pf ⟨by omega, by omega⟩ iBD (by subst e1; rfl)⟩, fun q1 => ⟨fun e1 => ⟨h.1.1, pf ⟨by omega, by omega⟩ iBD (by subst e1; rfl)⟩, fun q2 => ⟨fun e1 => ⟨h.1.1, pf ⟨by omega, by omega⟩ iBD (by subst e1; rfl)⟩, fun q3 => ⟨fun q4 => ⟨fun q5 => ⟨h.1.1, (stp (Or.inl rfl) (by
      have c0 := cz0.mp q5
      subst q4 c0
      unfold vop
      simp)).mono (fun M2 t => ⟨t.1, k_MM_reckon_156 t.1 t.2⟩)⟩, fun q5 v hv v2 hv2 => ⟨h.1.1, (pf ?_ ?_ ?_).mono (fun M2 t => ⟨t.1, k_MM_reckon_156 t.1 t.2⟩)⟩⟩, fun q4 => ⟨fun q5 => ⟨fun q6 => ⟨?_, ?_, fun v hv => ⟨h.1.1, (s_MM_push ?_ ⟨by omega, by omega⟩ hO h hV hb).mono (fun M2 t => ⟨t.1, k_MM_reckon_228 t.1 (t.2.rkx (Or.inl ?_) ?_)⟩)⟩⟩, fun q6 => ⟨h.1.1, (stp (Or.inl rfl) (by
      have s28 : s = 28 := by omega
      subst s28
      have b1 : B = 1 ∧ D = 1 := by omega
      have c0 : C ≤ 0 := by omega
      unfold vop
      simp [b1.1, b1.2, c0])).mono (fun M2 t => ⟨t.1, k_MM_reckon_228 t.1 t.2⟩)⟩⟩, fun q5 => ⟨h.1.1, (stp (Or.inr rfl) (by
      have s28 : s = 28 := by omega
      subst s28
      have b1 : B ≠ 1 ∨ D ≠ 1 := by omega
      unfold vop
      simp [b1])).mono (fun M2 t => ⟨t.1, k_MM_reckon_228 t.1 t.2⟩)⟩⟩⟩⟩⟩⟩
  · by_cases y : 0 ≤ cmpL C 0
    · rw [if_pos y] at hv; omega
    · rw [if_neg y, Int.neg_mul] at hv; omega
  · have c0 : C ≠ 0 := fun y => q5 ((cmpz C 0).2.2.2.1.2 y)
    by_cases y : 0 ≤ cmpL C 0
    · rw [if_pos y] at hv2
      have := (cmpz C 0).1.1 y
      have : 0 < C * B := Int.mul_pos (by omega) (by omega)
      exact ⟨by omega, by omega, by omega⟩
    · rw [if_neg y] at hv2
      have : ¬ 0 ≤ C := fun z => y ((cmpz C 0).1.2 z)
      have : 0 < (-C) * B := Int.mul_pos (by omega) (by omega)
      have e := Int.neg_mul C B
      exact ⟨by omega, by omega, by omega⟩
  · subst q4
    have c0 : C ≠ 0 := fun y => q5 (cz0.mpr y)
    unfold vop
    by_cases y : 0 ≤ cmpL C 0
    · have c1 : 0 < C := by have := cz1.mp y; omega
      rw [if_pos y] at hv hv2
      rw [hv, hv2, Int.mul_comm C B]
      simp [c0, c1]
    · have c1 : ¬ 0 < C := fun u => y (cz1.mpr (by omega))
      rw [if_neg y] at hv hv2
      rw [hv, hv2, Int.neg_mul, Int.neg_mul, Int.mul_comm C B]
      simp [c0, c1]
  · have := (cmpz C 0).2.2.2.2.1 q6
    omega
  · have := (cmpz C 0).2.2.2.2.1 q6
    exact ⟨fun _ => by omega, fun _ => by omega⟩
  · have c0 := (cmpz C 0).2.2.2.2.1 q6
    have t9 := tmod9 (x := A) c0
    by_cases y : 0 ≤ cmpL (Int.tmod A C) 0
    · rw [if_pos y] at hv; exact ⟨by omega, by omega⟩
    · rw [if_neg y] at hv; exact ⟨by omega, by omega⟩
  · have c0 := (cmpz C 0).2.2.2.2.1 q6
    have t9 := tmod9 (x := A) c0
    by_cases y : 0 ≤ cmpL (Int.tmod A C) 0
    · rw [if_pos y] at hv
      have := (cmpz (Int.tmod A C) 0).1.1 y
      omega
    · rw [if_neg y] at hv
      have : ¬ 0 ≤ Int.tmod A C := fun z => y ((cmpz (Int.tmod A C) 0).1.2 z)
      omega
  · have s28 : s = 28 := by omega
    subst s28
    have c0 := cz2.mp q6
    have b1 : B = 1 ∧ D = 1 := by omega
    have c1 : ¬ C ≤ 0 := by omega
    have em : v = A % C := by
      have e0 := Int.mul_tdiv_add_tmod A C
      have t9 := tmod9 (x := A) c0
      by_cases y : 0 ≤ cmpL (Int.tmod A C) 0
      · rw [if_pos y] at hv
        have t0 := (cmpz (Int.tmod A C) 0).1.1 y
        have e2 : (Int.tmod A C + C * Int.tdiv A C) % C = Int.tmod A C := by
          rw [Int.add_mul_emod_self_left]
          exact Int.emod_eq_of_lt t0 t9.2
        rw [Int.add_comm, e0] at e2
        rw [hv, e2]
      · rw [if_neg y] at hv
        have t0 : ¬ 0 ≤ Int.tmod A C := fun z => y ((cmpz (Int.tmod A C) 0).1.2 z)
        have e1 : A = (Int.tmod A C + C) + C * (Int.tdiv A C - 1) := by
          rw [Int.mul_sub]
          omega
        have e2 : ((Int.tmod A C + C) + C * (Int.tdiv A C - 1)) % C = Int.tmod A C + C := by
          rw [Int.add_mul_emod_self_left]
          exact Int.emod_eq_of_lt (by omega) (by omega)
        rw [← e1] at e2
        rw [hv, e2]
    unfold vop
    rw [em]
    simp [b1.1, b1.2, c1, vr9]
/-- the best of the values from k on, n + 1 of them; x = 14 the least, 15 the most -/
def bsq (x : Int) (A B : Nat → Int) (k : Nat) : Nat → vrs
  | 0 => (0, A k, B k)
  | n + 1 => vbs x (bsq x A B k n).2.1 (bsq x A B k n).2.2 (A (k + n + 1)) (B (k + n + 1))
theorem x_MM_best {k m : Nat} {l : Int} (hl : i32 l) (hm : 1 ≤ m) (hO : mOk M) (h : Wd M a) (hV : mI M a 23 = (V : Int)) (hb : V < 16400) (hk : k + m ≤ 16400) (hv : ∀ j, k ≤ j → j < k + m → vok 0 (mL M (a + 97) j) (mL M (a + 98) j)) : Cv G y_MM_best (d + 1) [vr a, vi l, vi k, vi m] M (fun M' => mOk M' ∧ rkX M a V 0 (bsq (if l = 0 then 15 else 14) (mL M (a + 97)) (mL M (a + 98)) k (m - 1)) M') := by
  refine Cv.mono (Q := rkX M a V 0 (bsq (if l = 0 then 15 else 14) (mL M (a + 97)) (mL M (a + 98)) k (m - 1))) ?_ (fun M' t => ⟨t.1.1.1, t⟩)
  have r21 : mR M a 21 = a + 97 := h.1.2.2.2.2.1.2.2.2.2.2.2.1
  have r22 : mR M a 22 = a + 98 := h.1.2.2.2.2.1.2.2.2.2.2.2.2.1
  have n97 : mK M (a + 97) = 33 ∧ mN M (a + 97) = 16400 := h.1.2.2.2.2.2.2.2.1.1
  have n98 : mK M (a + 98) = 33 ∧ mN M (a + 98) = 16400 := h.1.2.2.2.2.2.2.2.1.2.1
  refine k_MM_best hO hl ⟨by omega, by omega⟩ ⟨by omega, by omega⟩ ?_
  suffices H : ∀ (c i f : Nat), c + i = k + m → k ≤ f → f < k + m → k ≤ i → k < i → bsq (if l = 0 then 15 else 14) (mL M (a + 97)) (mL M (a + 98)) k (i - k - 1) = (0, mL M (a + 97) f, mL M (a + 98) f) → h_MM_best_8 G d a l k m f i M (rkX M a V 0 (bsq (if l = 0 then 15 else 14) (mL M (a + 97)) (mL M (a + 98)) k (m - 1))) from
    H (m - 1) (k + 1) k (by omega) (by omega) (by omega) (by omega) (by omega) (by rw [show k + 1 - k - 1 = 0 by omega]; rfl)
  intro c
  induction c with
  | zero =>
    intro i f hc f1 f2 hi hki hb9
    refine k_MM_best_8 hO hl ⟨by omega, by omega⟩ ⟨by omega, by omega⟩ ⟨by omega, by omega⟩ ⟨by omega, by omega⟩ ?_
    rw [r21, r22, n97.2, n98.2, Int.toNat_natCast]
    have hf := hv f f1 f2
    refine ⟨⟨by omega, by omega⟩, fun _ => ⟨h.1.1, n97.1, by omega, n98.1, by omega, (s_MM_push (hO _ _).2 (hO _ _).2 hO h hV hb).mono (fun M2 t => ⟨t.1, t.2.rkx hf (by rw [show m - 1 = i - k - 1 by omega, hb9]; rfl)⟩)⟩, fun q => by omega⟩
  | succ c ih =>
    intro i f hc f1 f2 hi hki hb9
    refine k_MM_best_8 hO hl ⟨by omega, by omega⟩ ⟨by omega, by omega⟩ ⟨by omega, by omega⟩ ⟨by omega, by omega⟩ ?_
    rw [r21, r22, n97.2, n98.2, Int.toNat_natCast, Int.toNat_natCast]
    have hf := hv f f1 f2
    have hi' := hv i hi (by omega)
    unfold vok at hf hi'
    have m1 := mul9 (x := mL M (a + 97) i) (y := mL M (a + 98) f) ⟨by omega, by omega⟩ ⟨by omega, by omega⟩
    have m2 := mul9 (x := mL M (a + 97) f) (y := mL M (a + 98) i) ⟨by omega, by omega⟩ ⟨by omega, by omega⟩
    refine ⟨⟨by omega, by omega⟩, fun q => by omega, fun _ => ⟨h.1.1, n97.1, by omega, n98.1, by omega, by omega, by omega, ⟨fun _ _ => ⟨by omega, by omega⟩, fun _ => ⟨by omega, by omega⟩⟩, fun v hv2 => ?_⟩⟩
    have stp : bsq (if l = 0 then 15 else 14) (mL M (a + 97)) (mL M (a + 98)) k (i + 1 - k - 1) = vbs (if l = 0 then 15 else 14) (mL M (a + 97) f) (mL M (a + 98) f) (mL M (a + 97) i) (mL M (a + 98) i) := by
      rw [show i + 1 - k - 1 = (i - k - 1) + 1 by omega, bsq, hb9, show k + (i - k - 1) + 1 = i by omega]
    have cz := cmpz (mL M (a + 97) i * mL M (a + 98) f - mL M (a + 97) f * mL M (a + 98) i) 0
    clear m1 m2 hf hi'
    split at hv2
    · rename_i z
      rw [hv2]
      refine ih (i + 1) f (by omega) f1 f2 (by omega) (by omega) ?_
      rw [stp]
      unfold vbs
      by_cases l0 : l = 0
      · rw [if_pos l0, if_neg (by decide), if_neg (by omega)]
      · rw [if_neg l0, if_pos rfl, if_neg (by omega)]
    · rename_i z
      rw [hv2]
      refine ih (i + 1) i (by omega) hi (by omega) (by omega) (by omega) ?_
      rw [stp]
      unfold vbs
      by_cases l0 : l = 0
      · rw [if_pos l0, if_neg (by decide), if_pos (by omega)]
      · rw [if_neg l0, if_pos rfl, if_pos (by omega)]
end RKX
end
section
/-! The reference's values, exactly: finish, names, leaves, choose. -/
section FNX
variable {G : mG} {F : Prop} {d a g R W T V n X : Nat} {M : mM}
theorem rkX.pre {t : Int} {v : vrs} {M2 M' : mM} (m : Mv (fun _ => False) (fun x => x = a) M a M2) (f : ∀ i, i ≠ 23 → mI M2 a i = mI M a i) (w : Wd M a) (h : rkX M2 a V t v M') : rkX M a V t v M' := by
  refine ⟨h.1.pre m f w, ?_⟩
  rw [← f 16 (by omega)]
  exact h.2
/-- what a node's value is, from its parts' values -/
def fnv (s p : Int) (k : Nat) (u : Nat → vrs) : vrs := if s = 31 then (0, 1 - (u 0).2.1, (u 0).2.2) else if s = 45 then (0, -(u 0).2.1, (u 0).2.2) else if s = 14 ∨ s = 15 then bsq s (fun j => (u j).2.1) (fun j => (u j).2.2) 0 (k - 1) else vop s (u 0).2.1 (u 0).2.2 (u 1).2.1 (u 1).2.2 p
theorem bsq_cg {x : Int} {A B A' B' : Nat → Int} {k k' : Nat} : ∀ n : Nat, (∀ j, j ≤ n → A (k + j) = A' (k' + j) ∧ B (k + j) = B' (k' + j)) → bsq x A B k n = bsq x A' B' k' n
  | 0, h => by
    have := h 0 (by omega)
    show (0, A (k + 0), B (k + 0)) = (0, A' (k' + 0), B' (k' + 0))
    rw [this.1, this.2]
  | n + 1, h => by
    have := h (n + 1) (by omega)
    rw [bsq, bsq, bsq_cg n (fun j hj => h j (by omega)), show k + n + 1 = k + (n + 1) by omega, show k' + n + 1 = k' + (n + 1) by omega, this.1, this.2]
theorem cmpv {s u b p a b1 c d : Int} (hs : 18 ≤ s ∧ s ≤ 23) (hu : u = a * d - c * b1) (hb : b = (if (((s = 23) ∧ (cmpL u 0 = 0)) ∨ ((¬ (s = 23)) ∧ (((s = 18) ∧ (¬ (cmpL u 0 = 0))) ∨ ((¬ (s = 18)) ∧ (((s = 21) ∧ (¬ (0 ≤ cmpL u 0))) ∨ ((¬ (s = 21)) ∧ (((s = 19) ∧ (¬ (0 < cmpL u 0))) ∨ ((¬ (s = 19)) ∧ (((s = 22) ∧ (¬ (cmpL u 0 ≤ 0))) ∨ ((¬ (s = 22)) ∧ (¬ (cmpL u 0 < 0)))))))))))) then 1 else 0)) : vop s a b1 c d p = (0, (if b = 0 then 0 else 1), 1) := by
  have cz := cmpz u 0
  have fin : ∀ (q : Prop) [Decidable q], (b = if q then 1 else 0) → vtr q = (0, (if b = 0 then 0 else 1), 1) := fun q _ e => by
    unfold vtr
    by_cases c : q
    · rw [if_pos c] at e ⊢
      rw [e]; rfl
    · rw [if_neg c] at e ⊢
      rw [e]; rfl
  have cg : ∀ (q : Prop) [Decidable q], ((((s = 23) ∧ (cmpL u 0 = 0)) ∨ ((¬ (s = 23)) ∧ (((s = 18) ∧ (¬ (cmpL u 0 = 0))) ∨ ((¬ (s = 18)) ∧ (((s = 21) ∧ (¬ (0 ≤ cmpL u 0))) ∨ ((¬ (s = 21)) ∧ (((s = 19) ∧ (¬ (0 < cmpL u 0))) ∨ ((¬ (s = 19)) ∧ (((s = 22) ∧ (¬ (cmpL u 0 ≤ 0))) ∨ ((¬ (s = 22)) ∧ (¬ (cmpL u 0 < 0)))))))))))) ↔ q) → vtr q = (0, (if b = 0 then 0 else 1), 1) := fun q _ e => fin q (by
      rw [hb]
      by_cases c : q
      · rw [if_pos c, if_pos (e.mpr c)]
      · rw [if_neg c, if_neg (fun z => c (e.mp z))])
  have s6 : s = 18 ∨ s = 19 ∨ s = 20 ∨ s = 21 ∨ s = 22 ∨ s = 23 := by omega
  unfold vop
  rcases s6 with e | e | e | e | e | e
  · rw [if_neg (by omega), if_neg (by omega), if_neg (by omega), if_neg (by omega), if_neg (by omega), if_pos e]
    exact cg _ (by constructor <;> intro h <;> omega)
  · rw [if_neg (by omega), if_neg (by omega), if_neg (by omega), if_neg (by omega), if_neg (by omega), if_neg (by omega), if_pos e]
    exact cg _ (by constructor <;> intro h <;> omega)
  · rw [if_neg (by omega), if_neg (by omega), if_neg (by omega), if_neg (by omega), if_neg (by omega), if_neg (by omega), if_neg (by omega), if_pos e]
    exact cg _ (by constructor <;> intro h <;> omega)
  · rw [if_neg (by omega), if_neg (by omega), if_neg (by omega), if_neg (by omega), if_neg (by omega), if_neg (by omega), if_neg (by omega), if_neg (by omega), if_pos e]
    exact cg _ (by constructor <;> intro h <;> omega)
  · rw [if_neg (by omega), if_neg (by omega), if_neg (by omega), if_neg (by omega), if_neg (by omega), if_neg (by omega), if_neg (by omega), if_neg (by omega), if_neg (by omega), if_pos e]
    exact cg _ (by constructor <;> intro h <;> omega)
  · rw [if_neg (by omega), if_neg (by omega), if_neg (by omega), if_neg (by omega), if_neg (by omega), if_neg (by omega), if_neg (by omega), if_neg (by omega), if_neg (by omega), if_neg (by omega)]
    exact cg _ (by constructor <;> intro h <;> omega)
theorem x_MM_finish {nm : Int → Prop} {k f e : Nat} {c : Nat → Int} {t : Int} (h : Ev F M a g R W T) (hn : n < T) (hk : 1 ≤ k) (ha : ari (so M g n) k) (hne : so M g n ≠ 29 ∧ so M g n ≠ 30 ∧ so M g n ≠ 32) (hf : fp M g n = ((n + 1 : Nat) : Int)) (ht : Tn nm M g f k (n + 1) e) (he : e ≤ T) (hty : tyr (so M g n) k c t) (hv : ∀ j, j < k → vok (c j) (mL M (a + 97) (V + j)) (mL M (a + 98) (V + j))) (hV : mI M a 23 = (V + k : Nat)) (hb : V + k ≤ 16400) : Cv G y_MM_finish (d + 3) [vr a, vr g, vi n] M (fun M' => mOk M' ∧ rkX M a V t (fnv (so M g n) (pm M g n) k (fun j => vr9 (c j) (mL M (a + 97) (V + j)) (mL M (a + 98) (V + j)))) M') := by
  generalize ev : (fnv (so M g n) (pm M g n) k (fun j => vr9 (c j) (mL M (a + 97) (V + j)) (mL M (a + 98) (V + j)))) = vv
  obtain ⟨hO, w, hg, hd, hB, -, -⟩ := id h
  have gp := w.gp hg
  have r0 : mR M g 0 = g + 1 := gp.2.1.1
  have r1 : mR M g 1 = g + 3 := gp.2.1.2.1
  have r4 : mR M g 4 = g + 9 := gp.2.1.2.2.2.2.1
  have i1 := tL_in (a := a) (q := g + 1) hg (tLk1 g)
  have i3 := tL_in (a := a) (q := g + 3) hg (tLk3 g)
  have i9 := tL_in (a := a) (q := g + 9) hg (tLk9 g)
  have l1 := hd (g + 1) (by first | exact tLk1 g | exact gLk1 g | omega)
  have l3 := hd (g + 3) (by first | exact tLk3 g | exact gLk3 g | omega)
  have l9 := hd (g + 9) (by first | exact tLk9 g | exact gLk9 g | omega)
  have rd : ∀ {p j : Nat} {Q : Int → mM → Prop}, p ∈ nums a → (j : Int) < ln M p → (∀ z, z = nt M p j → i32 z → Q z M) → Ci G y_MN_at (d + 2) [vr p, vi j] M Q := fun hp hk hQ => by
    refine (s_MN_at hO (w.nu hp) hk).mono (fun z M1 e1 => ?_)
    obtain ⟨e1, hz⟩ := e1
    subst e1
    exact hQ z hz (by rw [hz]; exact (hO _ _).1)
  refine k_MM_finish hO (i32s (by omega) (by omega)) ?_
  rw [r0]
  refine ⟨gp.1, (w.nu i1).1, rd i1 (by omega) (fun s hs is => ⟨is, hO, gp.1, ?_⟩)⟩
  have hs' : s = so M g n := hs
  rw [← hs'] at ha hne hty ev
  rw [r1]
  refine ⟨(w.nu i3).1, rd i3 (by omega) (fun p hp ip => ⟨ip, hO, gp.1, ?_⟩)⟩
  have hp' : p = pm M g n := hp
  rw [← hp'] at ev
  rw [r4]
  refine ⟨(w.nu i9).1, rd i9 (by omega) (fun x hx ix => ⟨ix, hO, ?_⟩)⟩
  rw [show x = ((n + 1 : Nat) : Int) from hx.trans hf]
  have hge := ht.ge
  refine s_fin32 is ip h k f (n + 1) e 0 hk ht he (by omega) ?_
  refine k_MM_finish_32 hO is ip (i32s (by omega) (by omega)) (i32s (by omega) (by omega)) ⟨fun _ => ?_, fun q => absurd (by decide) q⟩
  rw [hV, show ((V + k : Nat) : Int) - ((0 + k : Nat) : Int) = (V : Int) by omega]
  refine ⟨w.1.1, i32s (by omega) (by omega), fun M2 e2 => ?_⟩
  obtain ⟨m2, f2⟩ := mv_fld (v := (V : Int)) (i32s (by omega) (by omega)) hO w e2
  have o2 := m2.1
  have w2 := m2.2.1
  have z := w.2.2.2
  have cl : ∀ x, x < mZ M → x ≠ a → mL M2 x = mL M x := fun x hx hne => (m2.2.2.2.1.2.2.2.1 x hx (fun y => y) (fun p y => y.elim) hne).2
  have r21 : mR M2 a 21 = a + 97 := w2.1.2.2.2.2.1.2.2.2.2.2.2.1
  have r22 : mR M2 a 22 = a + 98 := w2.1.2.2.2.2.1.2.2.2.2.2.2.2.1
  have n97 : mK M2 (a + 97) = 33 ∧ mN M2 (a + 97) = 16400 := w2.1.2.2.2.2.2.2.2.1.1
  have n98 : mK M2 (a + 98) = 33 ∧ mN M2 (a + 98) = 16400 := w2.1.2.2.2.2.2.2.2.1.2.1
  have hV2 : mI M2 a 23 = (V : Int) := by rw [f2, if_pos rfl]
  have fin : ∀ M', mOk M' ∧ rkX M2 a V t vv M' → mOk M' ∧ h_MM_finish_400 G (d + 2) M' (fun M' => mOk M' ∧ rkX M a V t vv M') := fun M' y => ⟨y.1, k_MM_finish_400 y.1 ⟨y.1, y.2.pre m2 (fun i hi => by rw [f2, if_neg hi]) w⟩⟩
  have tr : ∀ {b : Int}, i32 b → t = 1 → vv = (0, (if b = 0 then 0 else 1), 1) → Cv G y_MM_pushTruth (d + 2) [vr a, vi b] M2 (fun M' => mOk M' ∧ h_MM_finish_400 G (d + 2) M' (fun M' => mOk M' ∧ rkX M a V t vv M')) := fun {b} ib t1 eb => (s_MM_pushTruth (d := d + 1) ib o2 w2 hV2 (by omega)).mono (fun M' y => fin M' ⟨y.1, y.2.rkx (Or.inr ⟨t1, by by_cases q : b = 0; exact Or.inl (if_pos q); exact Or.inr (if_neg q), rfl⟩) (by rw [eb]; unfold vr9; rw [if_pos t1])⟩)
  have v0 := hv 0 (by omega)
  rw [show V + 0 = V by omega] at v0
  unfold tyr at hty
  rw [r21, r22, cl (a + 97) (by omega) (by omega), cl (a + 98) (by omega) (by omega), n97.2, n98.2, Int.toNat_natCast, show ((V : Int) + 1).toNat = V + 1 by omega]
  refine ⟨fun q1 => ⟨n97.1, by omega, fun b hb2 => tr (by split at hb2 <;> exact ⟨by omega, by omega⟩) ?_ ?_⟩, fun q1 => ?_⟩
  · rw [if_pos (by omega)] at hty; exact hty.2
  · rw [if_pos (by omega)] at hty
    rw [hty.1 0 (by omega)] at v0
    have cz := (cmpz (mL M (a + 97) V) 0).2.2.2.1
    unfold fnv vr9 at ev
    rw [if_pos q1] at ev
    rw [← ev]
    show (0, 1 - mL M (a + 97) (V + 0), (if c 0 = 1 then (1 : Int) else mL M (a + 98) (V + 0))) = _
    rw [show V + 0 = V by omega, hty.1 0 (by omega), if_pos rfl]
    unfold vok at v0
    rcases v0 with v0 | ⟨-, v0 | v0, -⟩
    · omega
    · rw [if_pos (cz.mpr v0)] at hb2
      rw [v0, hb2]; rfl
    · rw [if_neg (fun z => by have := cz.mp z; omega)] at hb2
      rw [v0, hb2]; rfl
  rw [if_neg (by omega)] at hty
  refine ⟨fun q2 => ?_, fun q2 => ⟨fun q3 b hb2 => ?_, fun q3 => k_MM_isComparison o2 is (fun v7 h7 => ⟨i32s (by split at h7 <;> omega) (by split at h7 <;> omega), o2, fun y => ?_, fun y => ?_⟩)⟩⟩
  · rw [if_neg (by omega), if_neg (by omega), if_neg (show ¬ (19 ≤ s ∧ s ≤ 22) by omega)] at hty
    have c0 := hty.1 0 (by omega)
    rw [c0] at v0
    unfold vok at v0
    refine ⟨n97.1, by omega, n98.1, by omega, (s_MM_push ⟨by omega, by omega⟩ ⟨by omega, by omega⟩ o2 w2 hV2 (by omega)).mono (fun M' y => fin M' ⟨y.1, y.2.rkx (Or.inl ⟨hty.2, by omega, by omega, by omega, by omega⟩) (by
      unfold fnv at ev
      rw [if_neg q1, if_pos q2] at ev
      rw [← ev]; dsimp only; rw [c0]
      unfold vr9
      rw [hty.2]
      rfl)⟩)⟩
  · rw [if_neg (by omega), if_neg (by omega), if_neg (show ¬ (19 ≤ s ∧ s ≤ 22) by omega)] at hty
    have t0 := hty.2
    subst t0
    rw [show (0 + k : Nat) = k by omega]
    have eb : bsq (if b = 0 then 15 else 14) (mL M2 (a + 97)) (mL M2 (a + 98)) V (k - 1) = vv := by
      unfold fnv at ev
      rw [if_neg q1, if_neg q2, if_pos q3] at ev
      rw [← ev, cl (a + 97) (by omega) (by omega), cl (a + 98) (by omega) (by omega)]
      have e14 : (if b = 0 then (15 : Int) else 14) = s := by
        rcases q3 with q3 | q3
        · rw [if_pos q3] at hb2
          rw [if_neg (by omega), q3]
        · rw [if_neg (by omega)] at hb2
          rw [if_pos hb2, q3]
      rw [e14]
      refine bsq_cg (k - 1) (fun j hj => ?_)
      show _ = mL M (a + 97) (V + (0 + j)) ∧ _ = (if c (0 + j) = 1 then (1 : Int) else mL M (a + 98) (V + (0 + j)))
      rw [show 0 + j = j by omega, hty.1 j (by omega)]
      exact ⟨rfl, rfl⟩
    rw [← eb] at fin
    refine (x_MM_best (d := d + 1) (by split at hb2 <;> exact ⟨by omega, by omega⟩) hk o2 w2 hV2 (by omega) hb (fun j j1 j2 => ?_)).mono (fun M' y => by rw [← eb]; exact fin M' y)
    have := hv (j - V) (by omega)
    rw [show V + (j - V) = j by omega, hty.1 (j - V) (by omega)] at this
    rw [cl (a + 97) (by omega) (by omega), cl (a + 98) (by omega) (by omega)]
    exact this
  · have s5 : 24 ≤ s ∧ s ≤ 28 ∧ k = 2 := by unfold ari at ha; split at h7 <;> omega
    rw [if_neg (by omega), if_neg (by omega), if_neg (show ¬ (19 ≤ s ∧ s ≤ 22) by omega)] at hty
    have v1 := hv 1 (by omega)
    rw [hty.1 1 (by omega)] at v1
    rw [hty.1 0 (by omega)] at v0
    have t0 := hty.2
    subst t0
    rw [r21, r22, cl (a + 97) (by omega) (by omega), cl (a + 98) (by omega) (by omega), n97.2, n98.2]
    exact ⟨w2.1.1, n97.1, by omega, n98.1, by omega, by omega, by omega, (x_MM_reckon (d := d) ⟨s5.1, s5.2.1⟩ v0 v1 ip o2 w2 hV2 (by omega)).mono (fun M' y => fin M' (by
      have e9 : vop s (mL M (a + 97) V) (mL M (a + 98) V) (mL M (a + 97) (V + 1)) (mL M (a + 98) (V + 1)) p = vv := by
        unfold fnv vr9 at ev
        rw [if_neg q1, if_neg q2, if_neg q3] at ev
        rw [← ev]
        show _ = vop s (mL M (a + 97) (V + 0)) (if c 0 = 1 then (1 : Int) else mL M (a + 98) (V + 0)) (mL M (a + 97) (V + 1)) (if c 1 = 1 then (1 : Int) else mL M (a + 98) (V + 1)) p
        rw [hty.1 0 (by omega), hty.1 1 (by omega), show V + 0 = V by omega]
        rfl
      rw [e9] at y
      exact y))⟩
  · have s5 : 18 ≤ s ∧ s ≤ 23 ∧ k = 2 := by unfold ari at ha; split at h7 <;> omega
    have v1 := hv 1 (by omega)
    have c01 : c 0 = c 1 ∧ t = 1 := by
      by_cases q : s = 18 ∨ s = 23
      · rw [if_pos q] at hty; exact hty
      · rw [if_neg q, if_neg (by omega), if_pos (show 19 ≤ s ∧ s ≤ 22 by omega)] at hty
        exact ⟨(hty.1 0 (by omega)).trans (hty.1 1 (by omega)).symm, hty.2⟩
    rw [c01.1] at v0
    rw [r21, r22, cl (a + 97) (by omega) (by omega), cl (a + 98) (by omega) (by omega), n97.2, n98.2]
    refine ⟨w2.1.1, n98.1, by omega, ⟨fun _ => ⟨n97.1, by omega, by omega⟩, fun _ => ⟨n97.1, by omega, by omega, by omega, by omega⟩⟩, fun u hu => ?_⟩
    have iu : i64 u := by
      by_cases q : cmpL (mL M (a + 98) V) 0 = 0
      · rw [if_pos q] at hu
        unfold vok at v0 v1
        exact ⟨by omega, by omega⟩
      · rw [if_neg q] at hu
        have q' : mL M (a + 98) V ≠ 0 := fun y => q ((cmpz _ 0).2.2.2.1.2 y)
        unfold vok at v0 v1
        have m1 := mul9 (x := mL M (a + 97) V) (y := mL M (a + 98) (V + 1)) ⟨by omega, by omega⟩ ⟨by omega, by omega⟩
        have m3 := mul9 (x := mL M (a + 97) (V + 1)) (y := mL M (a + 98) V) ⟨by omega, by omega⟩ ⟨by omega, by omega⟩
        exact ⟨by omega, by omega⟩
    exact ⟨⟨fun _ => iu, fun _ => ⟨fun _ => iu, fun _ => ⟨fun _ => iu, fun _ => ⟨fun _ => iu, fun _ => ⟨fun _ => iu, fun _ => iu⟩⟩⟩⟩⟩, fun b hb2 => tr (by rw [hb2]; split <;> exact ⟨by decide, by decide⟩) c01.2 (by
      unfold fnv vr9 at ev
      rw [if_neg q1, if_neg q2, if_neg q3] at ev
      rw [← ev]
      show vop s (mL M (a + 97) (V + 0)) (if c 0 = 1 then (1 : Int) else mL M (a + 98) (V + 0)) (mL M (a + 97) (V + 1)) (if c 1 = 1 then (1 : Int) else mL M (a + 98) (V + 1)) p = _
      refine cmpv (u := u) ⟨s5.1, s5.2.1⟩ ?_ hb2
      rw [c01.1, show V + 0 = V by omega]
      unfold vok at v0 v1
      rcases v0 with ⟨t0, v0⟩ | ⟨t0, v0, v02⟩
      · rw [t0, if_neg (by decide), if_neg (by decide)]
        rw [if_neg (fun y => by have := (cmpz _ 0).2.2.2.1.1 y; omega)] at hu
        exact hu
      · rw [t0, if_pos rfl, if_pos rfl]
        rw [if_pos ((cmpz _ 0).2.2.2.1.2 v02)] at hu
        rw [hu]; omega)⟩
theorem x_MM_name {v : Int} (hF9 : ¬ F) (h : Ev F M a g R W T) (hvn : nme F M g R W v) (hV : mI M a 23 = (V : Int)) (hb : V < 16400) (hl : ln M (a + 99) = (X : Int)) (hX : X ≤ 64000) : Cv G y_MM_name (d + 2) [vr a, vr g, vi v] M (fun M' => mOk M' ∧ vok (tn M g v) (mL M (g + 16) v.toNat) (mL M (g + 17) v.toNat) ∧ psQ M a V (mL M (g + 16) v.toNat) (mL M (g + 17) v.toNat) M') := by
  have hv : (0 ≤ v ∧ v < R) ∨ (100 ≤ v ∧ v < 100 + W) := hvn.elim (fun z => Or.inl ⟨z.1, z.2.1⟩) (fun z => Or.inr z.2)
  obtain ⟨hO, w, hg, hn, hB, hr, hw⟩ := h
  have gp := w.gp hg
  have r7 : mR M g 7 = g + 13 := gp.2.1.2.2.2.2.2.2.1
  have r9 : mR M g 9 = g + 15 := gp.2.1.2.2.2.2.2.2.2.2.1
  have r10 : mR M g 10 = g + 16 := gp.2.1.2.2.2.2.2.2.2.2.2.1
  have r11 : mR M g 11 = g + 17 := gp.2.1.2.2.2.2.2.2.2.2.2.2
  have r13 : mR M g 13 = g + 18 := gp.2.2.1.1
  have B := w.1.2.2.2.2.1.2.2.2.2.2.2.2.2.2
  have r25 : mR M a 25 = a + 101 := B.1
  have r26 : mR M a 26 = a + 102 := B.2.1
  have r27 : mR M a 27 = a + 103 := B.2.2.1
  have r28 : mR M a 28 = a + 104 := B.2.2.2
  have A8 := w.1.2.2.2.2.2.2.2.1
  have g13 := gp.2.2.2.1.1
  have g15 := gp.2.2.2.1.2.2.1
  have g16 := gp.2.2.2.1.2.2.2.1
  have g17 := gp.2.2.2.1.2.2.2.2
  have g18 := gp.2.2.2.2.1.1
  refine k_MM_name hO ⟨by omega, by omega⟩ ?_
  rw [r7, r10, r11, r13, r25, r26, r27, r28]
  refine ⟨fun q => ?_, fun q => ?_⟩
  · have hvr : v.toNat < R := by omega
    obtain ⟨b1, b2⟩ := hr v.toNat hvr
    have hF : mI M (g + 13) v.toNat ≠ 0 → F := fun z => hvn.elim (fun y => y.2.2.elim (fun x => x) (fun x => absurd x z)) (fun y => y.1)
    rw [show ((v.toNat : Nat) : Int) = v by omega] at b1 b2
    refine ⟨gp.1, g13.1, by rw [g13.2]; omega, fun z => ⟨g16.1, by rw [g16.2]; omega, g17.1, by rw [g17.2]; omega, w.1.1, (s_MM_push (hO _ _).2 (hO _ _).2 hO w hV hb).mono (fun M' t => ⟨t.1, t.1, b1 z, t.2⟩)⟩, fun z => absurd (hF z) hF9⟩
  · exact absurd (hvn.elim (fun y => absurd y.2.1 (by omega)) (fun y => y.1)) hF9
theorem x_bg_leaf {t : Int} (hF9 : ¬ F) (h : Ev F M a g R W T) (hn : n < T) (hs : so M g n = 1 ∨ so M g n = 2 ∨ so M g n = 12 ∨ so M g n = 13) (h2 : so M g n = 2 → 0 ≤ va M g n ∧ va M g n < 1000000000) (h1 : so M g n = 1 → nme F M g R W (va M g n)) (ht : tyn (tn M g) (so M g n) (va M g n) 0 (fun _ => 0) t) (hV : mI M a 23 = (V : Int)) (hb : V < 16400) (hl : ln M (a + 99) = (X : Int)) (hX : X ≤ 64000) : Cv G y_MM_begin (d + 3) [vr a, vr g, vi n] M (fun M' => mOk M' ∧ ∃ A B : Int, vok t A B ∧ psQ M a V A B M' ∧ vr9 t A B = (if so M g n = 1 then vr9 t (mL M (g + 16) (va M g n).toNat) (mL M (g + 17) (va M g n).toNat) else if so M g n = 2 then (0, va M g n, 1) else if so M g n = 12 then (0, 1, 1) else (0, 0, 1))) := by
  obtain ⟨hO, w, -⟩ := id h
  unfold tyn at ht
  refine s_bg h hn (fun q => ?_) (fun q => ?_) (fun q => ?_) (fun q => by omega) (fun q => by omega)
  · rw [if_pos q] at ht
    refine (x_MM_name (d := d) hF9 h (h1 q) hV hb hl hX).mono (fun M' t' => ⟨t'.1, t'.1, _, _, by rw [ht]; exact t'.2.1, t'.2.2, by rw [if_pos q]⟩)
  · rw [if_neg (by omega), if_pos q] at ht
    have := h2 q
    exact (s_MM_push ⟨by omega, by omega⟩ ⟨by omega, by omega⟩ hO w hV hb).mono (fun M' t' => ⟨t'.1, t'.1, _, _, Or.inl ⟨ht, by omega, by omega, by omega, by omega⟩, t'.2, by rw [if_neg (by omega), if_pos q]; unfold vr9; rw [ht]; rfl⟩)
  · rw [if_neg (by omega), if_neg (by omega), if_pos q] at ht
    refine (s_MM_pushTruth (d := d + 1) ⟨by split <;> omega, by split <;> omega⟩ hO w hV hb).mono (fun M' t' => ⟨t'.1, t'.1, _, _, Or.inr ⟨ht, ?_, rfl⟩, t'.2, ?_⟩)
    · generalize (if so M g n = 12 then (1 : Int) else 0) = b
      by_cases z : b = 0
      · rw [if_pos z]; exact Or.inl rfl
      · rw [if_neg z]; exact Or.inr rfl
    · rw [if_neg (show ¬ so M g n = 1 by omega), if_neg (show ¬ so M g n = 2 by omega)]
      unfold vr9
      rw [ht]
      by_cases z : so M g n = 12
      · simp [z]
      · simp [z]
/-- the first part's value stays, or it is taken and another part is begun: which -/
def coX (M : mM) (a g V X n c2 : Nat) (M' : mM) : Prop := (so M g n ≠ 32 ∧ ¬ (so M g n = 29 ↔ mL M (a + 97) V = 1) ∧ M' = M) ∨ ∃ c : Int, ((c = c2 ∧ ((so M g n = 32 ∧ mL M (a + 97) V = 1) ∨ (so M g n ≠ 32 ∧ (so M g n = 29 ↔ mL M (a + 97) V = 1)))) ∨ (so M g n = 32 ∧ c = np M g c2 ∧ mL M (a + 97) V ≠ 1)) ∧ Mv (fun x => x = a + 99) (fun x => x = a) M a M' ∧ mI M' a 23 = (V : Int) ∧ (∀ i, i ≠ 23 → mI M' a i = mI M a i) ∧ ln M' (a + 99) = (X + 2 : Nat) ∧ (∀ j, j < X → nt M' (a + 99) j = nt M (a + 99) j) ∧ nt M' (a + 99) X = 0 ∧ nt M' (a + 99) (X + 1) = c
theorem x_MM_choose0 {c1 c2 : Nat} (h : Ev F M a g R W T) (hn : n < T) (h1 : fp M g n = (c1 : Int)) (h1T : c1 < T) (h2 : np M g c1 = (c2 : Int)) (h2T : c2 < T) (hV : mI M a 23 = (V + 1 : Nat)) (hb : V < 16400) (hl : ln M (a + 99) = (X : Int)) (hX : X ≤ 64000) : Cv G y_MM_choose0 (d + 2) [vr a, vr g, vi n] M (fun M' => mOk M' ∧ coX M a g V X n c2 M') := by
  obtain ⟨hO, w, hg, hd, hB, -, -⟩ := h
  have gp := w.gp hg
  have r0 : mR M g 0 = g + 1 := gp.2.1.1
  have r4 : mR M g 4 = g + 9 := gp.2.1.2.2.2.2.1
  have r5 : mR M g 5 = g + 11 := gp.2.1.2.2.2.2.2.1
  have r21 : mR M a 21 = a + 97 := w.1.2.2.2.2.1.2.2.2.2.2.2.1
  have n97 : mK M (a + 97) = 33 ∧ mN M (a + 97) = 16400 := w.1.2.2.2.2.2.2.2.1.1
  have i1 := tL_in (a := a) (q := g + 1) hg (tLk1 g)
  have i9 := tL_in (a := a) (q := g + 9) hg (tLk9 g)
  have i11 := tL_in (a := a) (q := g + 11) hg (tLk11 g)
  have l1 := hd (g + 1) (by first | exact tLk1 g | exact gLk1 g | omega)
  have l9 := hd (g + 9) (by first | exact tLk9 g | exact gLk9 g | omega)
  have l11 := hd (g + 11) (by first | exact tLk11 g | exact gLk11 g | omega)
  have rd : ∀ {p j : Nat} {Q : Int → mM → Prop}, p ∈ nums a → (j : Int) < ln M p → (∀ z, z = nt M p j → i32 z → Q z M) → Ci G y_MN_at (d + 1) [vr p, vi j] M Q := fun hp hk hQ => by
    refine (s_MN_at hO (w.nu hp) hk).mono (fun z M1 e1 => ?_)
    obtain ⟨e1, hz⟩ := e1
    subst e1
    exact hQ z hz (by rw [hz]; exact (hO _ _).1)
  -- the value is taken
  have go : ∀ (M2 : mM) (c : Int), i32 c → M2 = mUI M a 23 (V : Int) → ((c = c2 ∧ ((so M g n = 32 ∧ mL M (a + 97) V = 1) ∨ (so M g n ≠ 32 ∧ (so M g n = 29 ↔ mL M (a + 97) V = 1)))) ∨ (so M g n = 32 ∧ c = np M g c2 ∧ mL M (a + 97) V ≠ 1)) → Cv G y_MM_todo (d + 1) [vr a, vi 0, vi c] M2 (fun M' => mOk M' ∧ (mOk M' ∧ coX M a g V X n c2 M')) := fun M2 c hc e2 hcc => by
    obtain ⟨m2, f2⟩ := mv_fld (v := (V : Int)) ⟨by omega, by omega⟩ hO w e2
    have s2 := m2.lst (n99 (a := a)) (fun z => z)
    refine (s_MM_todo (d := d) ⟨by omega, by omega⟩ hc m2.1 m2.2.1 (by rw [s2.1]; exact hl) (by omega)).mono (fun M3 t => ?_)
    obtain ⟨o3, m3, l3, e3, x3, y3⟩ := t
    have f3 := (m3.fld m2.2.1 (fun q hq => by rw [hq]; exact n99) (fun z => z)).1
    have lt : ∀ {M5 : mM}, Wd M5 a → ∀ q, q = a + 99 → q < mZ M5 := fun w q hq => by rw [hq]; exact w.lt n99
    refine ⟨o3, o3, Or.inr ⟨c, hcc, (m2.mono (fun _ z => z.elim) (fun x hx => hx) (lt w)).trans (m3.mono (fun x hx => hx) (fun x hx => hx.elim) (lt m2.2.1)), by rw [f3, f2, if_pos rfl], fun i hi => by rw [f3, f2, if_neg hi], l3, fun j hj => by rw [e3 j hj, s2.2.1], x3, y3⟩⟩
  have eV : ((V + 1 : Nat) : Int) - 1 = (V : Int) := by omega
  refine k_MM_choose0 hO (i32s (by omega) (by omega)) ?_
  rw [r0]
  refine ⟨gp.1, (w.nu i1).1, rd i1 (by omega) (fun s hs is => ⟨is, hO, w.1.1, ?_⟩)⟩
  have hs' : s = so M g n := hs
  rw [r21, hV, r4, r5, eV]
  refine ⟨n97.1, by rw [n97.2]; omega, fun v10 h10 => ⟨gp.1, (w.nu i9).1, rd i9 (by omega) (fun x18 h18 i18 => ⟨i18, hO, (w.nu i11).1, ?_⟩)⟩⟩
  have cz := (cmpz (mL M (a + 97) (V : Int).toNat) 1).2.2.2.1
  rw [Int.toNat_natCast] at cz h10
  have t10 : v10 = 1 ↔ mL M (a + 97) V = 1 := by split at h10 <;> omega
  have t11 : v10 = 0 ∨ v10 = 1 := by split at h10 <;> omega
  have e18 : x18 = (c1 : Int) := h18.trans h1
  subst e18
  refine rd i11 (by omega) (fun x22 h22 i22 => ⟨i22, hO, fun q => ⟨w.1.1, ?_⟩, fun q v54 h54 => ⟨fun q9 => ⟨w.1.1, ?_⟩, fun q9 => ⟨hO, Or.inl ⟨by rw [← hs']; exact q, by rw [← hs']; split at h54 <;> omega, rfl⟩⟩⟩⟩)
  · have e22 : x22 = (c2 : Int) := h22.trans h2
    subst e22
    rw [hV, eV]
    refine ⟨⟨by omega, by omega⟩, fun M2 e2 => ⟨fun q0 => ?_, fun q0 => go M2 _ i22 e2 (Or.inl ⟨rfl, Or.inl ⟨by rw [← hs']; exact q, by omega⟩⟩)⟩⟩
    obtain ⟨m2, f2⟩ := mv_fld (v := (V : Int)) ⟨by omega, by omega⟩ hO w e2
    have w2 := m2.2.1
    have gp2 := w2.gp hg
    have s11 := m2.lst i11 (fun z => z)
    rw [show mR M2 g 5 = g + 11 from gp2.2.1.2.2.2.2.2.1]
    refine ⟨gp2.1, (w2.nu i11).1, (s_MN_at m2.1 (w2.nu i11) (by rw [s11.1]; omega)).mono (fun z M3 e3 => ?_)⟩
    obtain ⟨e3, hz⟩ := e3
    subst e3
    have iz : i32 z := by rw [hz]; exact (m2.1 _ _).1
    exact ⟨iz, m2.1, w2.1.1, go M3 z iz e2 (Or.inr ⟨by rw [← hs']; exact q, by rw [hz, s11.2.1], by omega⟩)⟩
  · have e22 : x22 = (c2 : Int) := h22.trans h2
    subst e22
    rw [hV, eV]
    exact ⟨⟨by omega, by omega⟩, fun M2 e2 => go M2 _ i22 e2 (Or.inl ⟨rfl, Or.inr ⟨by rw [← hs']; exact q, by rw [← hs']; split at h54 <;> omega⟩⟩)⟩
end FNX
end
