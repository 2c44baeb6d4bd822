section
/-! The reference's look, exactly. -/
section LVX
variable {G : mG} {d a N g T K : Nat} {M M2 M3 M4 : mM} {nm : Int → Prop} {Q : Int → mM → Prop} {co : Int} {E rv : Nat → Int}
/-- a node is looked at, and the loop goes on or ends -/
theorem x_lkA {nm' : Int → Prop} {n k L : Nat} {u : Nat → Int} (hU : URq M a g N K co E rv) (hco : i32 co) (hw0 : Wd M a) (hF : ∀ M3, laX co M M4 a g N T K n L k u E rv M3 → mI M3 a 16 ≠ 0 → Q 0 M3) (h : LO M a g N T K M4) (hn : n < T) (hk : pks nm' M4 g T n k) (hv : so M4 g n = 1 → (0 ≤ va M4 g n ∧ va M4 g n < N) ∧ wk M a (va M4 g n).toNat = 1) (hL : ln M4 (a + 93) = (L + k : Nat)) (hb : L + k ≤ 65000) (hu : ∀ j, j < k → nt M4 (a + 93) (L + j) = u j) (h01 : ∀ j, j < k → u j = 0 ∨ u j = 1) (hK : ∀ M5, laX co M M4 a g N T K n L k u E rv M5 → mI M5 a 16 = 0 → h_MM_look_32 G (d + 5) a co M5 Q) : Cv G y_MM_lookAt (d + 5) [vr a, vi n, vi co] M4 (fun M5 => mOk M5 ∧ h_MM_look_32 G (d + 5) a co M5 Q) := by
  refine (x_MM_lookAt hU hco hw0 h hn hk hv hL hb hu h01).mono (fun M5 h5 => ⟨h5.1, ?_⟩)
  obtain ⟨o5, h5⟩ := h5
  by_cases z : mI M5 a 16 = 0
  · exact hK M5 h5 z
  · have w5 := h5.1.2.1.2.1.1.1
    refine k_MM_look_32 o5 hco ?_
    rw [r20w w5]
    exact ⟨w5.1.1, (w5.nu n95).1, fun _ => ⟨fun q => absurd q z, fun _ => hF M5 h5 z⟩, fun q => absurd (Or.inr z) q⟩
/-- what the trees stand for: intervals of words -/
def TBx (M : mM) (a g md : Nat) (rs : List (Nat × Nat)) (n e : Nat) : Prop := (∀ r, r ∈ rs → Eo (wk M a) 6 r.1 r.2) ∧ if md = 0 then ∃ i j, rs = [(i, j)] ∧ Tm M M a g 0 0 i j n e else rs.length = md ∧ Tmb M M a g (-1) rs n e
/-- what a node's value becomes -/
def rsw (M : mM) (g : Nat) (rv : Nat → Int) (k : Nat) : Int := if so M g k = 1 then rv (va M g k).toNat else va M g k
/-- no fault; the kinds; the names are resolved -/
def lkE (M : mM) (a g : Nat) (E rv : Nat → Int) (rs : List (Nat × Nat)) (L n e : Nat) (M3 : mM) : Prop := (flr (wk M a) E (nt M (a + 7)) rs).1 = 0 ∧ (∀ j, j < rs.length → nt M3 (a + 93) (L + j) = kdl (wk M a) E rs j) ∧ ∀ k, n ≤ k → k < e → va M3 g k = rsw M g rv k
/-- a pair is a fault -/
def fpw (M3 : mM) (a : Nat) (f : Int × Int) : Prop := mI M3 a 16 = f.1 ∧ mI M3 a 17 = f.2
theorem fst9_l {x y : Int × Int} (h : x.1 ≠ 0) : fst9 x y = x := if_neg h
theorem fst9_r {x y : Int × Int} (h : x.1 = 0) : fst9 x y = y := if_pos h
/-- as many parts as brothers -/
theorem tb_len (h : LO M a g N T K M2) : ∀ {rs : List (Nat × Nat)} {k f n e : Nat}, Tmb M M a g (-1) rs n e → Tn nm M2 g f k n e → 1 ≤ k → rs.length = k
  | [], _, _, _, _, h1, _, _ => h1.elim
  | [r], k, f, n, e, h1, h2, hk => by
    cases f with
    | zero => exact h2.elim
    | succ f =>
      rw [Tn, if_neg (by omega)] at h2
      by_cases c1 : k = 1
      · rw [c1]; rfl
      · rw [if_neg c1] at h2
        obtain ⟨m, q1, -⟩ := h2
        have := (h.2.2.2.1 n).2.2.symm.trans q1
        have := h1.2
        omega
  | r :: r2 :: rs, k, f, n, e, h1, h2, hk => by
    obtain ⟨m', t1, t2, t3⟩ := h1
    cases f with
    | zero => exact h2.elim
    | succ f =>
      rw [Tn, if_neg (by omega)] at h2
      by_cases c1 : k = 1
      · rw [if_pos c1] at h2
        have := (h.2.2.2.1 n).2.2.symm.trans h2.1
        omega
      · rw [if_neg c1] at h2
        obtain ⟨m, q1, -, q3⟩ := h2
        have q1' := (h.2.2.2.1 n).2.2.symm.trans q1
        have em : m = m' := by omega
        subst em
        have := tb_len h t3 q3 (by omega)
        simp only [List.length_cons] at this ⊢
        omega
theorem x_look_run (hU : URq M a g N K co E rv) (hco : i32 co) (hw0 : Wd M a) (hnm : ∀ v, nm v → (0 ≤ v ∧ v < N) ∧ wk M a v.toNat = 1) : ∀ (f md n e Lk L kk : Nat) (M2 : mM) (rs : List (Nat × Nat)), kk = md + (1 - md) → Tn nm M2 g f md n e → TBx M a g md rs n e → (∀ k, n ≤ k → k < e → va M2 g k = va M g k) → e ≤ T → LO M a g N T K M2 → mI M2 a 16 = 0 → ln M2 (a + 95) = (Lk + 2 * kk : Nat) → (∀ j, j < kk → nt M2 (a + 95) (Lk + 2 * (kk - 1 - j)) = ci M g n j ∧ nt M2 (a + 95) (Lk + 2 * (kk - 1 - j) + 1) = 0) → ln M2 (a + 93) = (L : Int) → L ≤ n → Lk ≤ 2 * (n + (T - e)) → (∀ M3, LO M a g N T K M3 → fpw M3 a (flr (wk M a) E (nt M (a + 7)) rs) → mI M3 a 16 ≠ 0 → Q 0 M3) → (∀ M3, lkR co M a g N T K Lk L kk f md n e M2 M3 → lkE M a g E rv rs L n e M3 → h_MM_look_32 G (d + 5) a co M3 Q) → h_MM_look_32 G (d + 5) a co M2 Q := by
  intro f
  induction f with
  | zero => intro md n e Lk L kk M2 rs _ ht; exact ht.elim
  | succ f ih =>
    intro md n e Lk L kk M2 rs hkk ht htb hva he h h16 lk pk lL hLn hLk hF hQ
    obtain ⟨hrs, htb⟩ := htb
    have hT := h.2.1.2.2.2.2.2.2.2
    have ht' := ht
    rw [Tn] at ht'
    have hlt := ht.lt
    by_cases c0 : md = 0
    · subst c0
      have kk1 : kk = 1 := by omega
      subst kk1
      rw [if_pos rfl] at ht'
      obtain ⟨p0, p1⟩ := pk 0 (by omega)
      rw [show Lk + 2 * (1 - 1 - 0) = Lk by omega] at p0 p1
      have pn : nt M2 (a + 95) Lk = (n : Int) := p0
      obtain ⟨-, ht'⟩ := ht'
      rw [if_pos rfl] at htb
      obtain ⟨i, j, rfl, tm⟩ := htb
      have eo : Eo (wk M a) 6 i j := hrs (i, j) (List.mem_singleton.2 rfl)
      have fl1 : flr (wk M a) E (nt M (a + 7)) [(i, j)] = fl (wk M a) E (nt M (a + 7)) 0 i j := by
        show fst9 (fl (wk M a) E (nt M (a + 7)) 0 i j) (0, 0) = _
        unfold fst9
        split
        · rename_i h0; exact (fl_z eo h0).symm
        · rfl
      have kd1 : ∀ y : Int, y = kdq (wk M a) E 0 i j → ∀ t, t < [(i, j)].length → y = kdl (wk M a) E [(i, j)] t := fun y hy t ht => by
        have t0 : t = 0 := by simp at ht; omega
        subst t0
        exact hy
      have so2 : ∀ k, so M2 g k = so M g k := fun k => (h.2.2.2.1 k).1
      have fp2 : fp M2 g n = fp M g n := (h.2.2.2.1 n).2.1
      have tn9 := fun (_ : Unit) => td_node (E := E) _ 0 i j (Nat.le_refl _) (Or.inl ⟨rfl, eo⟩) rfl _ _ _ tm
      unfold lkE at hQ
      rw [fl1] at hF hQ
      rcases ht' with ⟨b1, b2, b3, b4, b5⟩ | ⟨k, b1, b2, b3, b4⟩
      · -- a leaf
        refine s_lk2 (X := Lk) hco h h16 (by omega) lk (by omega) pn p1 (fun _ M5 k5 l5 t5 => ?_) (fun q => absurd (Or.inr (by omega)) q)
        have so5 : so M5 g n = so M2 g n := (k5.1.2.2.2.1 n).1.trans (h.2.2.2.1 n).1.symm
        have fp5 : fp M5 g n = fp M2 g n := (k5.1.2.2.2.1 n).2.1.trans (h.2.2.2.1 n).2.1.symm
        have va5 := k5.2.2.1
        obtain ⟨-, e1, kw, kij, kl, ks, ka, kv, kf, kk9⟩ : fp M g n = -1 ∧ e = n + 1 ∧ ∃ k, (i ≤ k ∧ k < j) ∧ (wk M a k = 1 ∨ wk M a k = 2 ∨ wk M a k = 12 ∨ wk M a k = 13) ∧ so M g n = wk M a k ∧ pm M g n = nt M (a + 7) k ∧ va M g n = nvq M a k ∧ fl (wk M a) E (nt M (a + 7)) 0 i j = (if wk M a k = 1 ∧ E k = -1 then (2, nt M (a + 7) k) else (0, 0)) ∧ kdq (wk M a) E 0 i j = (if wk M a k = 12 ∨ wk M a k = 13 ∨ (wk M a k = 1 ∧ E k = 1) then 1 else 0) := by
          rcases tn9 () with q | ⟨q, -⟩
          · exact q
          · rw [← fp2, b2] at q; omega
        have sw5 : so M5 g n = wk M a kw := by rw [so5, so2, ks]
        have vk5 : so M5 g n = 1 → (va M5 g n).toNat = kw := fun z => by
          rw [va5, hva n (Nat.le_refl _) hlt, kv]
          unfold nvq
          rw [if_pos (by rw [← sw5]; exact z), Int.toNat_natCast]
        refine x_lkA (nm' := nm) (k := 0) (L := L) (u := fun _ => 0) hU hco hw0 (fun M6 h6 z6 => ?_) k5.1 (by omega) (Or.inl ⟨rfl, by rw [fp5]; exact b2, by rw [so5]; exact b3⟩) (fun z => by rw [va5]; exact hnm _ (b5 (so5.symm.trans z))) (by rw [k5.2.2.2.1, lL]; omega) (by omega) (fun j _ => by omega) (fun j _ => by omega) (fun M6 h6 z6 => hQ M6 ?_ ?_)
        · obtain ⟨g1, g2, g3, g4, g5, g6⟩ := h6
          refine hF M6 g1 ?_ z6
          rcases g6 with ⟨y1, y2, y3, y4⟩ | ⟨y1, y2, y3, y4⟩ | ⟨-, y1, -⟩
          · rw [vk5 y3] at y4
            rw [kf, if_pos ⟨by rw [← sw5]; exact y3, y4⟩]
            exact ⟨y1, by rw [y2, ka]⟩
          · rw [sw5] at y3; omega
          · rw [k5.2.1, h16] at y1; exact absurd y1 z6
        rotate_left
        · obtain ⟨g1, g2, g3, g4, g5, g6⟩ := h6
          rcases g6 with ⟨y1, -⟩ | ⟨y1, -⟩ | ⟨yl, y1, y2, y3⟩
          · rw [z6] at y1; exact absurd y1 (by decide)
          · rw [z6] at y1; exact absurd y1 (by decide)
          · refine ⟨?_, fun t ht => ?_, fun k k1 k2 => ?_⟩
            · rw [kf, if_neg]
              rintro ⟨u1, u2⟩
              obtain ⟨-, v2, v3⟩ := y2 (by rw [sw5]; exact u1)
              rw [vk5 (by rw [sw5]; exact u1), u2] at v2
              exact v3 v2.symm
            · have t0 : t = 0 := by simp at ht; omega
              subst t0
              refine kd1 _ ?_ 0 (by simp)
              rw [kk9, Nat.add_zero]
              have yt : tyn (tn M g) (so M5 g n) (va M6 g n) 0 (fun _ => 0) (nt M6 (a + 93) L) := by
                rcases yl with yl | yl
                · exact absurd z6 yl
                · exact yl.2.2.2
              unfold tyn at yt
              rw [sw5] at yt
              by_cases w1 : wk M a kw = 1
              · obtain ⟨-, v2, -⟩ := y2 (by rw [sw5]; exact w1)
                rw [vk5 (by rw [sw5]; exact w1)] at v2
                show nt M6 (a + 93) L = _
                rw [← v2]
                by_cases e1 : E kw = 1
                · rw [if_pos (Or.inr (Or.inr ⟨w1, e1⟩)), e1]
                · rw [if_neg (by omega)]
                  omega
              · rw [if_neg w1] at yt
                by_cases w2 : wk M a kw = 2
                · rw [if_pos w2] at yt
                  show nt M6 (a + 93) L = _
                  rw [yt, if_neg (by omega)]
                · rw [if_neg w2, if_pos (by omega)] at yt
                  show nt M6 (a + 93) L = _
                  rw [yt, if_pos (by omega)]
            · have kn : k = n := by omega
              subst kn
              unfold rsw
              have ya : laE co M M5 a g k 0 (fun _ => 0) (nt M6 (a + 93) L) M6 := yl
              by_cases w1 : so M g k = 1
              · obtain ⟨v1, -, -⟩ := y2 (by rw [so5, so2]; exact w1)
                rw [if_pos w1, v1, va5, hva k (Nat.le_refl _) hlt]
              · rw [if_neg w1]
                rcases ya with ya | ⟨-, -, ya, -⟩
                · exact absurd z6 ya
                · rw [ya k (Or.inr (by rw [so5, so2]; exact w1)), va5, hva k (Nat.le_refl _) hlt]
        obtain ⟨g1, g2, g3, g4, g5, g6⟩ := h6
        have so6 : so M6 g n = so M2 g n := (g1.2.2.2.1 n).1.trans (h.2.2.2.1 n).1.symm
        have fp6 : fp M6 g n = fp M2 g n := (g1.2.2.2.1 n).2.1.trans (h.2.2.2.1 n).2.1.symm
        replace g6 : laE co M M5 a g n 0 (fun _ => 0) (nt M6 (a + 93) L) M6 := by
          rcases g6 with ⟨y1, -⟩ | ⟨y1, -⟩ | ⟨yl, -⟩
          · rw [z6] at y1; exact absurd y1 (by decide)
          · rw [z6] at y1; exact absurd y1 (by decide)
          · exact yl
        rcases g6 with z | ⟨z1, z2, z3, z4⟩
        · exact absurd z6 z
        · rw [so5] at z2 z4
          refine ⟨g1, z6, by rw [g2.1]; exact l5, fun j _ => by rw [g2.2.1, t5], g3, fun j hj => by rw [g4 j hj, k5.2.2.2.2.1], ⟨fun _ => nt M6 (a + 93) L, fun j hj => by rw [show L + j = L by omega], fun _ _ => g5, ?_⟩, fun j hj => ?_⟩
          · rw [Ty, if_pos rfl]
            refine ⟨hlt, g5, Or.inl ⟨b1, by rw [fp6]; exact b2, by rw [so6]; exact b3, fun y => ?_, fun y => z2 (so6.symm.trans y), by rw [so6]; exact z4⟩⟩
            rw [so6] at y
            rw [z3 n (Or.inr (by rw [so5, y]; decide)), va5]
            exact b4 y
          · rw [z3 j (Or.inl (by omega)), va5]
      · -- a node with parts
        have hge := b4.ge
        have so1 : so M2 g n ≠ 1 := fun z => by unfold ari at b2; omega
        obtain ⟨-, rs2, r1, r2, r3, r4, r5, r6, r7⟩ : fp M g n = ((n + 1 : Nat) : Int) ∧ ∃ rs : List (Nat × Nat), rs ≠ [] ∧ (∀ r, r ∈ rs → Eo (wk M a) 6 r.1 r.2) ∧ Tmb M M a g (-1) rs (n + 1) e ∧ (so M g n ≠ 1 ∧ so M g n ≠ 2 ∧ so M g n ≠ 12 ∧ so M g n ≠ 13) ∧ ari (so M g n) rs.length ∧ fl (wk M a) E (nt M (a + 7)) 0 i j = fst9 (flr (wk M a) E (nt M (a + 7)) rs) (kft (gdt (so M g n) rs.length (kdl (wk M a) E rs)) (pm M g n)) ∧ kdq (wk M a) E 0 i j = tyt (so M g n) (kdl (wk M a) E rs) := by
          rcases tn9 () with ⟨q, -⟩ | q
          · rw [← fp2, b3] at q; omega
          · exact q
        have rk : rs2.length = k := tb_len h r3 b4 b1
        refine s_lk2 (X := Lk) hco h h16 (by omega) lk (by omega) pn p1 (fun q => by omega) (fun _ M6 k6 l6 t6 v6 w6 => ?_)
        rw [b3]
        have b46 : Tn nm M6 g f k (n + 1) e := b4.lo h k6.1 (fun j _ _ => k6.2.2.1 j)
        refine s_look126 (X := Lk + 2) hco (by omega) k f (n + 1) e (Lk + 2) M6 b1 b46 he k6.1 l6 (by omega) (fun M7 k7 l7 t7 v7 => ?_)
        have w7 := k7.1.2.1.2.1.1.1
        refine k_MM_look_126 k7.1.2.1.1 hco (i32s (by omega) (by omega)) (i32s (by omega) (by omega)) ⟨fun _ => ⟨w7.1.1, (s_MM_turn (d := d + 4) k7.1.2.1.1 w7 l7 (by omega) b1).mono (fun M8 h8 => ?_)⟩, fun q => absurd (by decide) q⟩
        obtain ⟨m8, l8, t8, u8⟩ := h8
        have k8 := kp.mk k7.1 m8 (fun _ z => z)
        have k68 := k6.trans (k7.trans k8)
        refine ⟨m8.1, ?_⟩
        have b48 : Tn nm M8 g f k (n + 1) e := b4.lo h k68.1 (fun j _ _ => k68.2.2.1 j)
        refine ih k (n + 1) e (Lk + 2) L k M8 rs2 (by omega) b48 ⟨r2, by rw [if_neg (by omega)]; exact ⟨rk, r3⟩⟩ (fun x x1 x2 => by rw [k68.2.2.1, hva x (by omega) x2]) he k68.1 (by rw [k68.2.1]; exact h16) (by rw [l8, l7]) (fun j hj => ?_) (by rw [k68.2.2.2.1]; exact lL) (by omega) (by omega) (fun M9 l9 p9 z9 => hF M9 l9 (by rw [r6, fst9_l (by rw [← p9.1]; exact z9)]; exact p9) z9) (fun M9 h9 x9 => ?_)
        · refine ⟨?_, ?_⟩
          · rw [t8 (k - 1 - j) (by omega), show k - 1 - (k - 1 - j) = j by omega]
            exact (v7 j hj).1
          · rw [u8 _ (fun i hi => by omega)]
            exact (v7 (k - 1 - j) (by omega)).2
        · obtain ⟨g1, g2, g3, g4, g5, g6, ⟨c, gu, g7, g8⟩, g9⟩ := h9
          obtain ⟨x1, x2, x3⟩ := x9
          rw [rk] at x2
          have ceq : ∀ j, j < k → kdl (wk M a) E rs2 j = c j := fun j hj => by rw [← x2 j hj]; exact gu j hj
          have low : ∀ j, j < Lk + 2 → nt M9 (a + 95) j = nt M6 (a + 95) j := fun j hj => by rw [g4 j hj, u8 j (fun i hi => by omega), t7 j hj]
          refine s_lk2 (n := n) (X := Lk) (s := 1) hco g1 g2 (by omega) g3 (by omega) (by rw [low Lk (by omega)]; exact v6) (by rw [low (Lk + 1) (by omega)]; exact w6) (fun _ M10 k10 l10 t10 => ?_) (fun q => absurd (Or.inl rfl) q)
          have so10 : so M10 g n = so M2 g n := (k10.1.2.2.2.1 n).1.trans (h.2.2.2.1 n).1.symm
          have fp10 : fp M10 g n = fp M2 g n := (k10.1.2.2.2.1 n).2.1.trans (h.2.2.2.1 n).2.1.symm
          refine x_lkA (nm' := nmr co M g) (k := k) (L := L) (u := kdl (wk M a) E rs2) hU hco hw0 (fun M11 h11 z11 => ?_) k10.1 (by omega) (Or.inr ⟨b1, by omega, by rw [so10]; exact b2, by rw [fp10]; exact b3, f, e, he, (g8.lo g1 k10.1 (fun j _ _ => k10.2.2.1 j)).tn⟩) (fun z => absurd (so10.symm.trans z) so1) (by rw [k10.2.2.2.1]; exact g5) (by omega) (fun j hj => by rw [k10.2.2.2.2.1]; exact x2 j hj) (fun j hj => by rw [ceq j hj]; exact g7 j hj) (fun M11 h11 z11 => hQ M11 ?_ ?_)
          · obtain ⟨f1, f2, f3, f4, f5, f6⟩ := h11
            refine hF M11 f1 ?_ z11
            rcases f6 with ⟨y1, y2, y3, y4⟩ | ⟨y1, y2, y3, y4⟩ | ⟨-, y1, -⟩
            · exact absurd (so10.symm.trans y3) so1
            · rw [r6, fst9_r x1, rk]
              rw [so10, so2] at y4
              unfold kft
              rw [if_neg y4]
              exact ⟨y1, y2⟩
            · rw [k10.2.1, g2] at y1; exact absurd y1 z11
          rotate_left
          · obtain ⟨f1, f2, f3, f4, f5, f6⟩ := h11
            rcases f6 with ⟨y1, -⟩ | ⟨y1, -⟩ | ⟨yl, y1, -, y3⟩
            · rw [z11] at y1; exact absurd y1 (by decide)
            · rw [z11] at y1; exact absurd y1 (by decide)
            · rw [so10, so2] at y3
              obtain ⟨v1, v2⟩ := y3 r4
              refine ⟨?_, fun t ht => by
                have t0 : t = 0 := by simp at ht; omega
                subst t0
                exact kd1 _ (by rw [r7]; exact v2) 0 ht, fun x y1 y2 => ?_⟩
              · rw [r6, fst9_r x1, rk]
                exact kft_1.mpr v1
              · have ya : va M11 g x = va M10 g x := by
                  rcases yl with yl | ⟨-, -, yl, -⟩
                  · exact absurd z11 yl
                  · exact yl x (Or.inr (by rw [so10]; exact so1))
                rw [ya, k10.2.2.1]
                by_cases xn : x = n
                · subst xn
                  rw [g9 x (Or.inl (by omega)), k68.2.2.1, hva x (Nat.le_refl _) hlt]
                  unfold rsw
                  rw [if_neg (by rw [← so2]; exact so1)]
                · exact x3 x (by omega) y2
          obtain ⟨f1, f2, f3, f4, f5, f6⟩ := h11
          have so11 : so M11 g n = so M2 g n := (f1.2.2.2.1 n).1.trans (h.2.2.2.1 n).1.symm
          have fp11 : fp M11 g n = fp M2 g n := (f1.2.2.2.1 n).2.1.trans (h.2.2.2.1 n).2.1.symm
          replace f6 : laE co M M10 a g n k (kdl (wk M a) E rs2) (nt M11 (a + 93) L) M11 := by
            rcases f6 with ⟨y1, -⟩ | ⟨y1, -⟩ | ⟨yl, -⟩
            · rw [z11] at y1; exact absurd y1 (by decide)
            · rw [z11] at y1; exact absurd y1 (by decide)
            · exact yl
          rcases f6 with z | ⟨z1, z2, z3, z4⟩
          · exact absurd z11 z
          · have va11 : ∀ j, va M11 g j = va M9 g j := fun j => (z3 j (Or.inr (by rw [so10]; exact so1))).trans (k10.2.2.1 j)
            refine ⟨f1, z11, by rw [f2.1]; exact l10, fun j hj => by rw [f2.2.1, t10, low j (by omega), t6 j hj], f3, fun j hj => by rw [f4 j hj, k10.2.2.2.2.1, g6 j hj, k68.2.2.2.2.1], ⟨fun _ => nt M11 (a + 93) L, fun j hj => by rw [show L + j = L by omega], fun _ _ => f5, ?_⟩, fun j hj => ?_⟩
            · rw [Ty, if_pos rfl]
              exact ⟨hlt, f5, Or.inr ⟨k, kdl (wk M a) E rs2, b1, by rw [so11]; exact b2, by rw [fp11]; exact b3, (g8.lo g1 f1 (fun j _ _ => va11 j)).cg (fun j hj => ceq j (by omega)), by rw [so11, ← so10]; exact z4⟩⟩
            · rw [va11, g9 j (by omega), k68.2.2.1]
    · rw [if_neg c0] at ht' htb
      obtain ⟨hlen, htb⟩ := htb
      have kkm : kk = md := by omega
      subst kkm
      by_cases c1 : kk = 1
      · subst c1
        rw [if_pos rfl] at ht'
        obtain ⟨r, rfl⟩ : ∃ r, rs = [r] := by
          cases rs with
          | nil => simp at hlen
          | cons r rs =>
            cases rs with
            | nil => exact ⟨r, rfl⟩
            | cons r2 rs => simp at hlen
        refine ih 0 n e Lk L 1 M2 [r] (by omega) ht'.2 ⟨hrs, by rw [if_pos rfl]; exact ⟨r.1, r.2, rfl, htb.1⟩⟩ hva he h h16 lk pk lL hLn hLk hF (fun M3 h3 x3 => hQ M3 ?_ x3)
        obtain ⟨g1, g2, g3, g4, g5, g6, ⟨u, gu, g7, g8⟩, g9⟩ := h3
        refine ⟨g1, g2, g3, g4, g5, g6, ⟨u, gu, g7, ?_⟩, g9⟩
        rw [Ty, if_neg (by omega), if_pos rfl]
        exact ⟨((g1.2.2.2.1 n).2.2.trans (h.2.2.2.1 n).2.2.symm).trans ht'.1, g8⟩
      · rw [if_neg c1] at ht'
        obtain ⟨m, q1, q2, q3⟩ := ht'
        have l1 := q2.lt
        have l2 := q3.ge
        have hnp : np M g n = (m : Int) := (h.2.2.2.1 n).2.2.symm.trans q1
        obtain ⟨r, r2, rs2, rfl⟩ : ∃ r r2 rs2, rs = r :: r2 :: rs2 := by
          cases rs with
          | nil => simp at hlen; omega
          | cons r rs =>
            cases rs with
            | nil => simp at hlen; omega
            | cons r2 rs => exact ⟨r, r2, rs, rfl⟩
        obtain ⟨m', tb1, tb2, tb3⟩ := htb
        have em : m' = m := by omega
        subst em
        have eor : Eo (wk M a) 6 r.1 r.2 := hrs r (List.mem_cons_self ..)
        have flc : flr (wk M a) E (nt M (a + 7)) (r :: r2 :: rs2) = fst9 (fl (wk M a) E (nt M (a + 7)) 0 r.1 r.2) (flr (wk M a) E (nt M (a + 7)) (r2 :: rs2)) := rfl
        have fl1 : flr (wk M a) E (nt M (a + 7)) [r] = fl (wk M a) E (nt M (a + 7)) 0 r.1 r.2 := by
          show fst9 (fl (wk M a) E (nt M (a + 7)) 0 r.1 r.2) (0, 0) = _
          unfold fst9
          split
          · rename_i h0; exact (fl_z eor h0).symm
          · rfl
        refine ih 0 n m' (Lk + 2 * (kk - 1)) L 1 M2 [r] (by omega) q2 ⟨fun x hx => by rw [List.mem_singleton.1 hx]; exact eor, by rw [if_pos rfl]; exact ⟨r.1, r.2, rfl, tb1⟩⟩ (fun x x1 x2 => hva x x1 (by omega)) (by omega) h h16 (by rw [lk]; omega) (fun j hj => ?_) lL hLn (by omega) (fun M3 l3 p3 z3 => hF M3 l3 (by rw [flc, fst9_l (by rw [← fl1, ← p3.1]; exact z3), ← fl1]; exact p3) z3) (fun M3 h3 x3 => ?_)
        · have : j = 0 := by omega
          subst this
          have := pk 0 (by omega)
          rw [show Lk + 2 * (kk - 1) + 2 * (1 - 1 - 0) = Lk + 2 * (kk - 1 - 0) by omega]
          exact this
        · obtain ⟨g1, g2, g3, g4, g5, g6, ⟨u, gu, g7, g8⟩, g9⟩ := h3
          obtain ⟨x1, x2, x3⟩ := x3
          rw [fl1] at x1
          refine ih (kk - 1) m' e Lk (L + 1) (kk - 1) M3 (r2 :: rs2) (by omega) (q3.lo h g1 (fun j j1 _ => g9 j (by omega))) ⟨fun x hx => hrs x (List.mem_cons_of_mem _ hx), by rw [if_neg (by omega)]; exact ⟨by simp only [List.length_cons] at hlen ⊢; omega, tb3⟩⟩ (fun x y1 y2 => by rw [g9 x (by omega), hva x (by omega) y2]) he g1 g2 g3 (fun j hj => ?_) g5 (by omega) (by omega) (fun M4 l4 p4 z4 => hF M4 l4 (by rw [flc, fst9_r x1]; exact p4) z4) (fun M4 h4 x4 => hQ M4 ?_ ?_)
          · have := pk (j + 1) (by omega)
            rw [ci_succ hnp, show Lk + 2 * (kk - 1 - (j + 1)) = Lk + 2 * (kk - 1 - 1 - j) by omega] at this
            rw [g4 _ (by omega), g4 _ (by omega)]
            exact this
          · obtain ⟨f1, f2, f3, f4, f5, f6, ⟨v, fu, f7, f8⟩, f9⟩ := h4
            refine ⟨f1, f2, f3, fun j hj => by rw [f4 j hj, g4 j (by omega)], by rw [f5]; omega, fun j hj => by rw [f6 j (by omega), g6 j hj], ⟨fun j => if j = 0 then u 0 else v (j - 1), fun j hj => ?_, fun j hj => ?_, ?_⟩, fun j hj => by rw [f9 j (by omega), g9 j (by omega)]⟩
            · show nt M4 (a + 93) (L + j) = if j = 0 then u 0 else v (j - 1)
              by_cases z : j = 0
              · rw [if_pos z, z, f6 (L + 0) (by omega)]; exact gu 0 (by omega)
              · rw [if_neg z, ← fu (j - 1) (by omega), show L + 1 + (j - 1) = L + j by omega]
            · show (if j = 0 then u 0 else v (j - 1)) = 0 ∨ (if j = 0 then u 0 else v (j - 1)) = 1
              by_cases z : j = 0
              · rw [if_pos z]; exact g7 0 (by omega)
              · rw [if_neg z]; exact f7 (j - 1) (by omega)
            · rw [Ty, if_neg (by omega), if_neg (by omega)]
              refine ⟨m', ((f1.2.2.2.1 n).2.2.trans (h.2.2.2.1 n).2.2.symm).trans q1, (g8.lo g1 f1 (fun j _ j2 => f9 j (by omega))).cg (fun j hj => ?_), f8.cg (fun j hj => ?_)⟩
              · have : j = 0 := by omega
                rw [this, if_pos rfl]
              · rw [if_neg (by omega), show j + 1 - 1 = j by omega]
          · obtain ⟨f1, f2, f3, f4, f5, f6, -, f9⟩ := h4
            obtain ⟨y1, y2, y3⟩ := x4
            refine ⟨by rw [flc, fst9_r x1]; exact y1, fun t ht => ?_, fun x z1 z2 => ?_⟩
            · cases t with
              | zero =>
                rw [f6 (L + 0) (by omega)]
                exact x2 0 (by simp)
              | succ t =>
                have := y2 t (by simp only [List.length_cons] at ht ⊢; omega)
                rw [show L + (t + 1) = L + 1 + t by omega, this]
                rfl
            · by_cases c : x < m'
              · rw [f9 x (Or.inl c)]; exact x3 x z1 c
              · exact y3 x (by omega) z2
end LVX
end
section
/-! The reference's look, exactly: the whole. -/
section LWX
variable {G : mG} {d a N g T K : Nat} {M : mM} {nm : Int → Prop} {co : Int} {E rv : Nat → Int}
/-- the fault, or the kind; the names are resolved -/
def lkX (co : Int) (M : mM) (a g N T K : Nat) (E rv : Nat → Int) (i j n e : Nat) (r : Int) (M3 : mM) : Prop := lkQ co M a g N T K n e r M3 ∧ (mI M a 16 ≠ 0 ∨ (mI M3 a 16 ≠ 0 ∧ fpw M3 a (fl (wk M a) E (nt M (a + 7)) 0 i j)) ∨ (mI M3 a 16 = 0 ∧ (fl (wk M a) E (nt M (a + 7)) 0 i j).1 = 0 ∧ r = kdq (wk M a) E 0 i j ∧ ∀ k, n ≤ k → k < e → va M3 g k = rsw M g rv k))
theorem x_MM_look {n e i j : Nat} (hU : URq M a g N K co E rv) (hco : i32 co) (hnm : ∀ v, nm v → (0 ≤ v ∧ v < N) ∧ wk M a v.toNat = 1) (eo : Eo (wk M a) 6 i j) (tm : Tm M M a g 0 0 i j n e) (h : Lc M a g N T K) (ht : To nm M g 0 n e) (he : e ≤ T) : Ci G y_MM_look (d + 6) [vr a, vi n, vi co] M (lkX co M a g N T K E rv i j n e) := by
  obtain ⟨hO, hw, -, -, -, hg, -, hT⟩ := id h
  have w := hw.1.1
  obtain ⟨f, ht⟩ := ht
  have hlt := ht.lt
  have r19 : ∀ {M3 : mM}, Wd M3 a → mR M3 a 19 = a + 93 := fun w => w.1.2.2.2.2.1.2.2.2.2.1
  have h0 := LO.refl h
  refine k_MM_look hO (i32s (by omega) (by omega)) hco ?_
  rw [r20w w]
  refine ⟨w.1.1, (w.nu n95).1, fun M3 e3 => ?_⟩
  have b95 : 0 ≤ ln M (a + 95) := (w.nu n95).2.2.2.1.1
  obtain ⟨m3, l3, -, -⟩ := mv_set hO w n95 (v := 0) (by omega) b95 e3
  have k3 := kp.mk h0 m3 (fun _ z => z)
  have w3 := k3.1.2.1.2.1.1.1
  rw [r19 w3]
  refine ⟨(w3.nu n93).1, fun M6 e6 => ?_⟩
  have b93 : 0 ≤ ln M3 (a + 93) := (w3.nu n93).2.2.2.1.1
  obtain ⟨m6, l6, -, -⟩ := mv_set m3.1 w3 n93 (v := 0) (by omega) b93 e6
  have w6 := m6.2.1
  have f6 := (m6.fld w3 (fun q hq => by rw [hq]; exact n93) (fun hq => hq)).1
  have s7 := m6.lst (tL_in (a := a) (q := g + 7) hg (tLk7 g)) (by omega)
  have L6 : LO M a g N T K M6 := k3.1.step m6 (fun q hq => Or.inl hq) (fun x hx => hx.elim) s7.1 (fun i _ _ => by rw [f6])
  have v6 : ∀ k, va M6 g k = va M g k := fun k => (s7.2.1 k).trans (k3.2.2.1 k)
  have x6 : ln M6 (a + 95) = ((0 : Nat) : Int) := by rw [(m6.lst n95 (by omega)).1, l3]; rfl
  rw [r20w w6]
  refine ⟨(w6.nu n95).1, (s_lk_push (i32s (by omega) (by omega)) L6 x6 (by omega)).mono (fun M7 h7 => ?_)⟩
  obtain ⟨o7, k7, l7, t7, v7⟩ := h7
  have w7 := k7.1.2.1.2.1.1.1
  rw [r20w w7]
  refine ⟨o7, w7.1.1, (w7.nu n95).1, (s_lk_push (i32s (by omega) (by omega)) k7.1 l7 (by omega)).mono (fun M8 h8 => ?_)⟩
  obtain ⟨o8, k8, l8, t8, v8⟩ := h8
  have w8 := k8.1.2.1.2.1.1.1
  have k68 := k7.trans k8
  have va8 : ∀ k, va M8 g k = va M g k := fun k => (k68.2.2.1 k).trans (v6 k)
  refine ⟨o8, ?_⟩
  have fl1 : flr (wk M a) E (nt M (a + 7)) [(i, j)] = fl (wk M a) E (nt M (a + 7)) 0 i j := by
    show fst9 (fl (wk M a) E (nt M (a + 7)) 0 i j) (0, 0) = _
    unfold fst9
    split
    · rename_i h0; exact (fl_z eo h0).symm
    · rfl
  have f16 : mI M8 a 16 = mI M a 16 := by rw [k68.2.1, f6, k3.2.1]
  by_cases z : mI M8 a 16 = 0
  · refine x_look_run (nm := nm) hU hco w hnm f 0 n e 0 0 1 M8 [(i, j)] rfl (ht.lo h0 k8.1 (fun k _ _ => va8 k)) ⟨fun r hr => by rw [List.mem_singleton.1 hr]; exact eo, by rw [if_pos rfl]; exact ⟨i, j, rfl, tm⟩⟩ (fun k _ _ => va8 k) he k8.1 z l8 (fun j hj => ?_) (by rw [k68.2.2.2.1, l6]; rfl) (by omega) (by omega) (fun M3 h3 p3 z3 => ⟨⟨h3, Or.inl rfl, Or.inl z3⟩, Or.inr (Or.inl ⟨z3, by rw [← fl1]; exact p3⟩)⟩) (fun M9 h9 x9 => ?_)
    · have : j = 0 := by omega
      subst this
      exact ⟨(t8 0 (by omega)).trans v7, v8⟩
    · obtain ⟨g1, g2, g3, g4, g5, g6, ⟨u, gu, g7, g8⟩, g9⟩ := h9
      have w9 := g1.2.1.2.1.1.1
      have g3' : mI M9 (a + 95) 1 = 0 := g3
      refine k_MM_look_32 g1.2.1.1 hco ?_
      rw [r20w w9, r19 w9, g3', g2]
      refine ⟨w9.1.1, (w9.nu n95).1, fun _ => ⟨fun _ => ⟨(w9.nu n93).1, (s_MN_last g1.2.1.1 (w9.nu n93) (by rw [g5]; omega)).mono (fun x M10 h10 => ?_)⟩, fun q => absurd rfl q⟩, fun q => absurd (Or.inl (by omega)) q⟩
      obtain ⟨e10, hx⟩ := h10
      subst e10
      refine ⟨by rw [hx]; exact (g1.2.1.1 _ _).1, g1.2.1.1, fun v hv => ⟨⟨g1, by split at hv <;> omega, Or.inr ⟨g2, ⟨f, g8.cg (fun j hj => ?_)⟩, fun j hj => (g9 j hj).trans (va8 j)⟩⟩, Or.inr (Or.inr ⟨g2, by rw [← fl1]; exact x9.1, ?_, x9.2.2⟩)⟩⟩
      rotate_left
      · have q0 := x9.2.1 0 (by simp)
        rw [g5] at hx
        have hx' : x = kdq (wk M a) E 0 i j := hx.trans q0
        rw [← hx']
        have u0 := gu 0 (by omega)
        have u1 := g7 0 (by omega)
        have hx2 : x = u 0 := hx.trans u0
        split at hv <;> omega
      have u0 := gu 0 (by omega)
      have u1 := g7 0 (by omega)
      rw [g5] at hx
      have hx' : x = u 0 := hx.trans u0
      rw [show j = 0 by omega]
      split at hv <;> omega
  · refine k_MM_look_32 o8 hco ?_
    rw [r20w w8]
    exact ⟨w8.1.1, (w8.nu n95).1, fun _ => ⟨fun q => absurd q z, fun _ => ⟨⟨k8.1, Or.inl rfl, Or.inl z⟩, Or.inl (by rw [← f16]; exact z)⟩⟩, fun q => absurd (Or.inr z) q⟩
end LWX
end
