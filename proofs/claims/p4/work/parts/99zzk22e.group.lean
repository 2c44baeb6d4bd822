/-! The class's reader: an operation is grouped, exactly. -/
/-- what grouping does to the piles: tv the kind that comes, v9 the fault that is noted -/
def gE (M0 : mM) (r p O P k L : Nat) (tv : Int) (v9 : Int × Int) (M' : mM) : Prop :=
  (mI M' r 12 = k ∧ mI M' r 5 = mI M0 r 5 - cdp (mI M0 (r + 1) k) ∧ mI M' r 14 = ((1 + skk M0 r k : Nat) : Int)) ∧ (∀ i, 1 ≤ i → i ≤ 4 → mI M' (r + i) = mI M0 (r + i)) ∧ (∀ i, mI M' (r + 5) i = if i = skk M0 r k then tv else mI M0 (r + 5) i) ∧ Fqq M0 r v9 M' ∧ (¬ jm (mI M0 (r + 1) k) → (∀ i, mI M' O i = if i = L then mI M0 (r + 1) k else mI M0 O i) ∧ (∀ i, mI M' P i = if i = L then mI M0 (r + 2) k else mI M0 P i) ∧ mI M' p 2 = (L : Int) + 1) ∧ (jm (mI M0 (r + 1) k) → ∃ t : Nat, mI M0 (r + 3) k = t ∧ (∀ i, mI M' O i = mI M0 O i) ∧ (∀ i, mI M' P i = if i = t then (L : Int) else mI M0 P i) ∧ mI M' p 2 = L)
/-- the kind that grouping leaves -/
def gtv (o last : Int) : Int := if o = 40 then 0 else if o = 42 then last else if o = 41 ∨ o ≤ 24 ∨ o = 30 ∨ o = 31 then 1 else 0
/-- whether the kinds fit -/
def gft (o mk left last : Int) : Prop := if o = 40 then last = 0 else if o = 41 then last = 1 else if o = 42 then mk = (if last = 1 then 4 else 0) else okq (o - 1) left last
section RX2
variable {G : mG} {d z r w T A B D N C n p O P K k a s L V F d0 c : Nat} {M0 M M' M1 M2 M110 M126 M133 : mM} {H H' : Nat → Nat} {ns : Nat → Int} {wt : Int}

theorem Fqq.two {r : Nat} {v v' : Int × Int} (h : Fqq M r v M1) (h' : Fqq M1 r v' M2) (e : v.1 = 0) : Fqq M r v' M2 := fun ft hf => by
  have a := h ft hf
  have b := h' _ a
  by_cases z : ft.1 = 0
  · have e1 : fst9 ft v = v := if_pos z
    have e2 : fst9 ft v' = v' := if_pos z
    rw [e1] at b
    rw [e2]
    have e3 : fst9 v v' = v' := if_pos e
    rw [e3] at b
    exact b
  · have e1 : fst9 ft v = ft := if_neg z
    rw [e1] at b
    exact b
theorem Fqq.later {r : Nat} {v : Int × Int} (h : Fqq M r v M1) (h3 : mI M2 r 3 = mI M1 r 3) (h4 : mI M2 r 4 = mI M1 r 4) : Fqq M r v M2 := fun ft hf => (h ft hf).same h3 h4
theorem Fqq.first {r : Nat} {v : Int × Int} (h : Fqq M1 r v M2) (h3 : mI M1 r 3 = mI M r 3) (h4 : mI M1 r 4 = mI M r 4) : Fqq M r v M2 := fun ft hf => h ft (hf.same h3 h4)
theorem gE_ord {o l3 : Int} {v9 : Int × Int} (hb0 : RB M0 z r w T A B D N C n p O P K) (hop : mI M0 (r + 1) k = o) (nj : ¬ jm o) (R12 : mI M110 r 12 = k) (GD : mI M110 r 5 = mI M0 r 5 - cdp o) (R14 : mI M110 r 14 = ((uw 0 + skk M0 r k : Nat) : Int)) (X : ∀ b, b ≠ r → b ≠ r + 5 → mI M110 b = mI M0 b) (G5 : ∀ i, mI M110 (r + 5) i = if i = skk M0 r k then l3 else mI M0 (r + 5) i) (GF : Fqq M0 r v9 M110) (f126 : FI (prS p O P) M110 M126) (p126 : ∀ j, mI M126 p j = if j = 2 then (L : Int) + 1 else mI M110 p j) (q126 : ∀ j, mI M126 O j = if j = L then o else mI M110 O j) (u126 : ∀ j, mI M126 P j = if j = L then mI M0 (r + 2) k else mI M110 P j) : gE M0 r p O P k L l3 v9 M126 := by
  obtain ⟨oO, oP, op, e1, e2, e3⟩ := hb0.off
  have Y6 : ∀ b, b ≠ p → b ≠ O → b ≠ P → mI M126 b = mI M110 b := fun b y1 y2 y3 => f126.2.2.2.2.2.2 b (fun q => by
    have q' : b = p ∨ b = O ∨ b = P := q
    omega)
  have Yr : mI M126 r = mI M110 r := Y6 r (by omega) (by omega) (by omega)
  have Y5 : mI M126 (r + 5) = mI M110 (r + 5) := Y6 (r + 5) (by omega) (by omega) (by omega)
  have XO : mI M110 O = mI M0 O := X O (by omega) (by omega)
  have XP : mI M110 P = mI M0 P := X P (by omega) (by omega)
  have YT : ∀ i, 1 ≤ i → i ≤ 4 → mI M126 (r + i) = mI M0 (r + i) := fun i i1 i4 => by rw [Y6 (r + i) (by omega) (by omega) (by omega), X (r + i) (by omega) (by omega)]
  unfold gE
  rw [hop]
  exact ⟨⟨by rw [Yr]; exact R12, by rw [Yr]; exact GD, by rw [Yr]; exact R14⟩, YT, fun i => by rw [Y5]; exact G5 i, GF.later (by rw [Yr]) (by rw [Yr]), fun _ => ⟨fun i => by rw [q126, XO], fun i => by rw [u126, XP], by rw [p126, if_pos rfl]⟩, fun q => absurd q nj⟩
theorem gE_jmp {o l3 : Int} {v9 : Int × Int} {t : Nat} (hb0 : RB M0 z r w T A B D N C n p O P K) (hop : mI M0 (r + 1) k = o) (yj : jm o) (R12 : mI M110 r 12 = k) (GD : mI M110 r 5 = mI M0 r 5 - cdp o) (R14 : mI M110 r 14 = ((uw 0 + skk M0 r k : Nat) : Int)) (X : ∀ b, b ≠ r → b ≠ r + 5 → mI M110 b = mI M0 b) (G5 : ∀ i, mI M110 (r + 5) i = if i = skk M0 r k then l3 else mI M0 (r + 5) i) (GF : Fqq M0 r v9 M110) (g4 : mI M0 p 2 = L) (t1 : mI M0 (r + 3) k = t) (e133 : M133 = mUI M110 P t L) : gE M0 r p O P k L l3 v9 M133 := by
  obtain ⟨oO, oP, op, e1, e2, e3⟩ := hb0.off
  have Y6 : ∀ b, b ≠ P → mI M133 b = mI M110 b := fun b y1 => by rw [e133]; funext i; rw [mI_UI, if_neg (fun q => y1 q.1)]
  have Yr : mI M133 r = mI M110 r := Y6 r (by omega)
  have Y5 : mI M133 (r + 5) = mI M110 (r + 5) := Y6 (r + 5) (by omega)
  have YO : mI M133 O = mI M0 O := by rw [Y6 O (by omega), X O (by omega) (by omega)]
  have Yp : mI M133 p = mI M0 p := by rw [Y6 p (by omega), X p (by omega) (by omega)]
  have XP : mI M110 P = mI M0 P := X P (by omega) (by omega)
  have YT : ∀ i, 1 ≤ i → i ≤ 4 → mI M133 (r + i) = mI M0 (r + i) := fun i i1 i4 => by rw [Y6 (r + i) (by omega), X (r + i) (by omega) (by omega)]
  have YP : ∀ i, mI M133 P i = if i = t then (L : Int) else mI M0 P i := fun i => by
    rw [e133, mI_UI]
    by_cases v : i = t
    · rw [if_pos ⟨rfl, v⟩, if_pos v]
    · rw [if_neg (fun q => v q.2), if_neg v, XP]
  unfold gE
  rw [hop]
  exact ⟨⟨by rw [Yr]; exact R12, by rw [Yr]; exact GD, by rw [Yr]; exact R14⟩, YT, fun i => by rw [Y5]; exact G5 i, GF.later (by rw [Yr]) (by rw [Yr]), fun q => absurd yj q, fun _ => ⟨t, t1, fun i => by rw [YO], YP, by rw [Yp]; exact g4⟩⟩
theorem x_gr271 {l3 : Int} {v9 : Int × Int} (g : RG M0 r p O P n s V F ns d0 H L (k + 1) a 0) (hb0 : RB M0 z r w T A B D N C n p O P K) (ho : grpO (mI M0 (r + 1) k)) (h : gI M0 z r w T A B D N C n p O P K k (skk M0 r k) M) (h3 : l3 = 0 ∨ l3 = 1) (hx5 : mI M (r + 5) = mI M0 (r + 5)) (hxf : Fqq M0 r v9 M) : h_RR_group_271 G d r (mI M0 (r + 1) k) l3 M (fun M' => gQ M0 z r w T A B D N C n p O P K s V F ns d0 H L k a M' ∧ gE M0 r p O P k L l3 v9 M') := by
  have rm := g.room
  have sk1 := skk_le M0 r k
  obtain ⟨oO, oP, op, e1, e2, e3⟩ := hb0.off
  have hK := hb0.2.2.2.2.2.2
  obtain ⟨⟨g1, g2, g3, g4⟩, gw, ⟨ga, gs⟩, gc, ⟨gd, gd4⟩, gr, ge, ⟨gH, gHs⟩, gC, gL, gt⟩ := id g
  obtain ⟨h1, h2, h3', ⟨h4, h5⟩, h6, h7, h8⟩ := h
  have b4 := (sum_top M0 r k).2.2.2
  obtain ⟨en1, en2, en3, en4, en5, en6, -⟩ := ge k (by omega)
  generalize hop : mI M0 (r + 1) k = o at *
  have u0 : uw 0 = 1 := rfl
  have io : i32 o := by unfold grpO at ho; exact i32s (by omega) (by omega)
  refine k_RR_group_271 h1.1 io (i32s (by omega) (by omega)) ⟨h1.2.1.1, (s_RR_pushKind h3 h1 h5 (by omega)).mono (fun M98 q => ?_)⟩
  obtain ⟨h98, f98, r98, t98⟩ := q
  have o98 : ∀ b, b ≠ r → b ≠ r + 5 → mI M98 b = mI M0 b := fun b y1 y2 => by rw [f98.2.2.2.2.2.2 b (fun q => by have q' : b = r ∨ b = r + 5 := q; omega), h7 b y1 y2]
  have d98 : mI M98 r 5 = ((d0 + sdp M0 r (k + 1) : Nat) : Int) := by rw [r98, if_neg (by decide), h3' 5 (by decide) (by decide) (by decide) (by decide), gd]
  have i5 : mK M98 r = 4 ∧ i32 ((mI M98 r 5) - 1) := ⟨h98.2.1.1, by rw [d98]; exact ⟨by omega, by omega⟩⟩
  refine ⟨h98.1, ⟨fun _ => i5, fun _ => ⟨fun _ => i5, fun _ _ => i5⟩⟩, fun M110 e110 => ?_⟩
  -- the depth
  have D110 : RB M110 z r w T A B D N C n p O P K ∧ FI (rdS r p O P) M98 M110 ∧ (∀ i, i ≠ 5 → mI M110 r i = mI M98 r i) ∧ mI M110 r 5 = ((d0 + sdp M0 r k : Nat) : Int) ∧ ∀ b, b ≠ r → mI M110 b = mI M98 b := by
    by_cases y : o = 40 ∨ o = 41 ∨ o = 42
    · rw [if_pos y] at e110
      obtain ⟨x1, x2, x3, x4⟩ := rb_fld h98 i5.2 e110
      have cd : cdp o = 1 := by unfold cdp; split <;> omega
      exact ⟨x1, x2, fun i hi => by rw [x3, if_neg hi], by rw [x3, if_pos rfl, d98, b4, cd]; omega, x4⟩
    · rw [if_neg y] at e110
      have cd : cdp o = 0 := by unfold grpO at ho; unfold cdp; split <;> omega
      subst e110
      exact ⟨h98, FI.refl, fun _ _ => rfl, by rw [d98, b4, cd]; omega, fun _ _ => rfl⟩
  obtain ⟨h110, f110, r110, d110, o110⟩ := D110
  have X : ∀ b, b ≠ r → b ≠ r + 5 → mI M110 b = mI M0 b := fun b y1 y2 => by rw [o110 b y1, o98 b y1 y2]
  have R : ∀ i, i ≠ 3 → i ≠ 4 → i ≠ 5 → i ≠ 12 → i ≠ 14 → mI M110 r i = mI M0 r i := fun i i3 i4 i5 i12 i14 => by rw [r110 i i5, r98, if_neg i14, h3' i i3 i4 i12 i14]
  have R12 : mI M110 r 12 = k := by rw [r110 12 (by decide), r98, if_neg (by decide)]; exact h4
  have R14 : mI M110 r 14 = ((uw 0 + skk M0 r k : Nat) : Int) := by rw [r110 14 (by decide), r98, if_pos rfl]; omega
  have R3 : mI M0 r 3 ≠ 0 → mI M110 r 3 = mI M0 r 3 := fun q => by rw [r110 3 (by decide), r98, if_neg (by decide)]; exact h6 q
  have T5 : ∀ j, mI M110 (r + 5) j = 0 ∨ mI M110 (r + 5) j = 1 := fun j => by
    rw [o110 (r + 5) (by omega), t98]
    split
    · exact h3
    · exact h8 j
  have F110 : FI (rdS r p O P) M0 M110 := (h2.trans (f98.mono (fun b q => Or.inl (by have q' : b = r ∨ b = r + 5 := q; omega)))).trans f110
  have hJ : gJ M0 z r w T A B D N C n p O P K d0 k M110 := ⟨h110, F110, R, ⟨R12, R14, d110⟩, R3, X, T5⟩
  have G5 : ∀ i, mI M110 (r + 5) i = if i = skk M0 r k then l3 else mI M0 (r + 5) i := fun i => by rw [o110 (r + 5) (by omega), t98, hx5]
  have GD : mI M110 r 5 = mI M0 r 5 - cdp o := by rw [d110, gd, b4]; omega
  have GF : Fqq M0 r v9 M110 := hxf.later (by rw [r110 3 (by decide), r98, if_neg (by decide)]) (by rw [r110 4 (by decide), r98, if_neg (by decide)])
  obtain ⟨-, ⟨k0, ⟨q8, q9, q10, -⟩, ⟨kk1, kk2, kk3, -⟩, ⟨nn1, nn2, nn3, -⟩⟩, ⟨rw0, rp0⟩, -, hPK, -⟩ := id h110
  obtain ⟨pk1, ⟨pk2, pk3⟩, ⟨pk4, pk5, pk6, pk7⟩, -, -, pkC, -⟩ := id hPK
  rw [q10, q9, R12, Int.toNat_natCast, nn3, nn2, rp0, pk3, pk7, X (r + 3) (by omega) (by omega), X (r + 2) (by omega) (by omega), X p (by omega) (by omega), g4]
  refine ⟨h110.1, k0, kk3, by omega, fun y => ⟨kk2, by omega, pk1, ?_⟩, fun y => ⟨pk1, by omega, pk5, ?_⟩⟩
  · -- an order
    have nj : ¬ jm o := fun q => by obtain ⟨t, t1, -⟩ := en5 q; omega
    have no3 : (19 ≤ o ∧ o ≤ 29) ∨ o = 40 ∨ o = 41 := by unfold grpO at ho; unfold jm at nj; omega
    refine (s_Pr_add (n := L) io ((hb0.1 _ _).1) h110.1 hPK (by rw [X p (by omega) (by omega)]; exact g4) (by omega)).mono (fun x M126 q => ?_)
    obtain ⟨ex, o126, f126, p126, q126, u126⟩ := q
    exact ⟨by rw [ex]; exact ⟨by omega, by omega⟩, o126, k_RR_group_362 o126 ⟨gr_ord g hb0 hop no3 hJ o126 f126 p126 q126 u126, gE_ord hb0 hop nj R12 GD R14 X G5 GF f126 p126 q126 u126⟩⟩
  · -- a jump is settled
    have yj : jm o := Classical.byContradiction (fun q => y (en6 q))
    obtain ⟨t, t1, t2, t3, t4, t5, t6⟩ := en5 yj
    rw [t1, Int.toNat_natCast]
    refine ⟨by omega, fun M133 e133 => ?_⟩
    have o133 : mOk M133 := by rw [e133]; exact mOk_UI h110.1 ⟨by omega, by omega⟩
    exact k_RR_group_362 o133 ⟨gr_jmp g hb0 hop yj (by unfold grpO at ho; omega) hJ t1 t2 t3 t4 t5 o133 e133, gE_jmp hb0 hop yj R12 GD R14 X G5 GF g4 t1 e133⟩

theorem x_gr252 {l3 l4 : Int} {pp : Prop} (g : RG M0 r p O P n s V F ns d0 H L (k + 1) a 0) (hb0 : RB M0 z r w T A B D N C n p O P K) (ho : grpO (mI M0 (r + 1) k)) (h : gI M0 z r w T A B D N C n p O P K k (skk M0 r k) M) (h3 : l3 = 0 ∨ l3 = 1) (h4 : i32 l4) (hx5 : mI M (r + 5) = mI M0 (r + 5)) (hx3 : mI M r 3 = mI M0 r 3 ∧ mI M r 4 = mI M0 r 4) (hpp : l4 = 0 ↔ ¬ pp) : h_RR_group_252 G d r (mI M0 (r + 1) k) l3 l4 M (fun M' => gQ M0 z r w T A B D N C n p O P K s V F ns d0 H L k a M' ∧ gE M0 r p O P k L l3 (kft pp (mI M0 (r + 2) k)) M') := by
  have rm := g.room
  obtain ⟨-, ⟨k0, ⟨q8, q9, -⟩, ⟨kk1, kk2, -⟩, ⟨nn1, nn2, -⟩⟩, -⟩ := id h.1
  have e12 := h.2.2.2.1.1
  refine k_RR_group_252 h.1.1 (hb0.1 _ _).1 (i32s (by omega) (by omega)) h4 ⟨fun y => ?_, fun y => ?_⟩
  · rw [q9, nn2]
    have hnp : ¬ pp := hpp.mp y
    have ek : kft pp (mI M0 (r + 2) k) = (3, mI M0 (r + 2) k) := if_neg hnp
    have h7 := h.2.2.2.2.2.1 (r + 2) (by omega) (by omega)
    refine ⟨k0, kk2, by omega, ?_⟩
    rw [e12, Int.toNat_natCast, h7]
    have h' := h
    obtain ⟨a1, a2, a3, ⟨a4, a5⟩, a6, a7, a8⟩ := h'
    refine (x_RR_note (i32s (by omega) (by omega)) (hb0.1 _ _).1 a1).mono (fun M1 q => ?_)
    obtain ⟨b1, f1, g1, -, g3, g4⟩ := q
    have o1 : ∀ b, b ≠ r → mI M1 b = mI M b := fun b hb => f1.2.2.2.2.2.2 b hb
    have hI : gI M0 z r w T A B D N C n p O P K k (skk M0 r k) M1 := ⟨b1, a2.trans (f1.mono (fun b q => Or.inl ⟨by omega, by omega⟩)), fun i i3 i4 i12 i14 => by rw [g1 i i3 i4]; exact a3 i i3 i4 i12 i14, ⟨by rw [g1 12 (by decide) (by decide)]; exact a4, by rw [g1 14 (by decide) (by decide)]; exact a5⟩, fun q => by rw [g3 (by rw [a6 q]; exact q)]; exact a6 q, fun b b1 b2 => by rw [o1 b b1]; exact a7 b b1 b2, fun j => by rw [o1 (r + 5) (by omega)]; exact a8 j⟩
    refine ⟨b1.1, ?_⟩
    rw [ek]
    exact x_gr271 g hb0 ho hI h3 (by rw [o1 (r + 5) (by omega)]; exact hx5) ((g4 (by decide)).first hx3.1 hx3.2)
  · have hp : pp := Classical.byContradiction (fun q => y (hpp.mpr q))
    have ek : kft pp (mI M0 (r + 2) k) = (0, 0) := if_pos hp
    rw [ek]
    exact x_gr271 g hb0 ho h h3 hx5 (Fq_none hx3.1 hx3.2)

theorem x_RR_group (g : RG M0 r p O P n s V F ns d0 H L (k + 1) a 0) (hb0 : RB M0 z r w T A B D N C n p O P K) (ho : grpO (mI M0 (r + 1) k)) (e : M = mUI M0 r 12 (((k + 1 : Nat) : Int) - 1)) : Cv G y_RR_group (d + 1) [vr r] M (fun M' => gQ M0 z r w T A B D N C n p O P K s V F ns d0 H L k a M' ∧ gE M0 r p O P k L (gtv (mI M0 (r + 1) k) (mI M0 (r + 5) (skk M0 r k + ckk (mI M0 (r + 1) k)))) (kft (gft (mI M0 (r + 1) k) (mI M0 (r + 4) k) (mI M0 (r + 5) (skk M0 r k)) (mI M0 (r + 5) (skk M0 r k + ckk (mI M0 (r + 1) k)))) (mI M0 (r + 2) k)) M') := by
  have rm := g.room
  have u0 : uw 0 = 1 := rfl
  rw [show ((k + 1 : Nat) : Int) - 1 = (k : Int) by omega] at e
  obtain ⟨hM, fM, rM, nM⟩ := rb_fld hb0 ⟨by omega, by omega⟩ e
  have sk1 := (sum_top M0 r k).2.1
  have gt0 : ∀ j, mI M0 (r + 5) j = 0 ∨ mI M0 (r + 5) j = 1 := g.2.2.2.2.2.2.2.2.2.2
  have hg : gI M0 z r w T A B D N C n p O P K k (skk M0 r k + ckk (mI M0 (r + 1) k) + 1) M := by
    obtain ⟨-, -, -, gc, -, -, -, -, -, -, gt⟩ := id g
    refine ⟨hM, fM, fun i i3 i4 i12 i14 => by rw [rM, if_neg i12], ⟨by rw [rM, if_pos rfl], by rw [rM, if_neg (by decide), gc, sk1]; omega⟩, fun _ => by rw [rM, if_neg (by decide)], fun b b1 _ => nM b b1, fun j => by rw [nM (r + 5) (by omega)]; exact gt j⟩
  -- a kind is taken, and nothing else
  have pop : ∀ {c9 : Nat} {M4 : mM}, gI M0 z r w T A B D N C n p O P K k (c9 + 1) M4 → mI M4 (r + 5) = mI M0 (r + 5) → (mI M4 r 3 = mI M0 r 3 ∧ mI M4 r 4 = mI M0 r 4) → c9 < 336 → Ci G y_RR_popKind d [vr r] M4 (fun v M5 => v = mI M0 (r + 5) c9 ∧ gI M0 z r w T A B D N C n p O P K k c9 M5 ∧ mI M5 (r + 5) = mI M0 (r + 5) ∧ (mI M5 r 3 = mI M0 r 3 ∧ mI M5 r 4 = mI M0 r 4)) := fun {c9 M4} h h5 h34 hc => by
    obtain ⟨h1, h2, h3, ⟨h4, h5'⟩, h6, h7, h8⟩ := h
    refine (x_RR_popKind h1 h5' hc).mono (fun v M1 q => ?_)
    obtain ⟨⟨hv, hv2⟩, b1, f1, g1⟩ := q
    have o1 : ∀ b, b ≠ r → mI M1 b = mI M4 b := fun b hb => f1.2.2.2.2.2.2 b hb
    refine ⟨by rw [← h5]; exact hv2 (h8 c9), ⟨b1, h2.trans (f1.mono (fun b q => Or.inl ⟨by omega, by omega⟩)), fun i i3 i4 i12 i14 => by rw [g1, if_neg i14]; exact h3 i i3 i4 i12 i14, ⟨by rw [g1, if_neg (by decide)]; exact h4, by rw [g1, if_pos rfl]⟩, fun q => by rw [g1, if_neg (by decide)]; exact h6 q, fun b b1 b2 => by rw [o1 b b1]; exact h7 b b1 b2, fun j => by rw [o1 (r + 5) (by omega)]; exact h8 j⟩, by rw [o1 (r + 5) (by omega)]; exact h5, by rw [g1, if_neg (by decide)]; exact h34.1, by rw [g1, if_neg (by decide)]; exact h34.2⟩
  have b1 : skk M0 r k + ckk (mI M0 (r + 1) k) < 336 := by omega
  obtain ⟨-, ⟨k0, ⟨q8, -⟩, ⟨kk1, -⟩, ⟨nn1, -⟩⟩, -⟩ := id hM
  have e12 := hg.2.2.2.1.1
  refine k_RR_group hM.1 ?_
  rw [q8, nn1, e12, Int.toNat_natCast, nM (r + 1) (by omega)]
  refine ⟨k0, kk1, by omega, (pop hg (nM (r + 5) (by omega)) ⟨by rw [rM, if_neg (by decide)], by rw [rM, if_neg (by decide)]⟩ b1).mono (fun x5 M4 q => ?_)⟩
  obtain ⟨hx5, g4, y4, z4⟩ := q
  have hx01 := gt0 (skk M0 r k + ckk (mI M0 (r + 1) k))
  rw [← hx5] at hx01 ⊢
  refine ⟨i32s (by omega) (by omega), g4.1.1, (s_RR_level (hb0.1 _ _).1 g4.1.1).mono (fun x8 M7 q => ?_)⟩
  obtain ⟨e7, ex8⟩ := q
  subst e7
  have lb := lvl_b (mI M0 (r + 1) k)
  have h4k : mI M7 (r + 4) k = mI M0 (r + 4) k := by rw [g4.2.2.2.2.2.1 (r + 4) (by omega) (by omega)]
  generalize hop : mI M0 (r + 1) k = o at *
  have D1 : ∀ {l3 l4 : Int} {pp : Prop} {M2 : mM}, gI M0 z r w T A B D N C n p O P K k (skk M0 r k) M2 → mI M2 (r + 5) = mI M0 (r + 5) → (mI M2 r 3 = mI M0 r 3 ∧ mI M2 r 4 = mI M0 r 4) → (l3 = 0 ∨ l3 = 1) → (l4 = 0 ∨ l4 = 1) → (l4 = 0 ↔ ¬ pp) → l3 = gtv o x5 → (pp ↔ gft o (mI M0 (r + 4) k) (mI M0 (r + 5) (skk M0 r k)) x5) → h_RR_group_252 G d r o l3 l4 M2 (fun M' => gQ M0 z r w T A B D N C n p O P K s V F ns d0 H L k a M' ∧ gE M0 r p O P k L (gtv o x5) (kft (gft o (mI M0 (r + 4) k) (mI M0 (r + 5) (skk M0 r k)) x5) (mI M0 (r + 2) k)) M') := fun {l3 l4 pp M2} h2 y5 y34 y3 y4 yp et ep => by
    have := x_gr252 (G := G) (d := d) (l3 := l3) (l4 := l4) (pp := pp) g hb0 (by rw [hop]; exact ho) h2 y3 (i32s (by omega) (by omega)) y5 y34 yp
    rw [hop, propext ep, et] at this
    rw [et]
    exact this
  refine ⟨i32s (by omega) (by omega), g4.1.1, fun v11 e11 => ?_⟩
  have i11 : v11 = 0 ∨ v11 = 1 := by rw [e11]; split <;> omega
  have two : (19 ≤ o ∧ o ≤ 31) → gI M0 z r w T A B D N C n p O P K k (skk M0 r k + 1) M7 := fun y => by
    have : ckk o = 1 := by unfold ckk; rw [if_pos y]
    rw [this] at g4
    exact g4
  have one : ¬ (19 ≤ o ∧ o ≤ 31) → gI M0 z r w T A B D N C n p O P K k (skk M0 r k) M7 := fun y => by
    have : ckk o = 0 := by unfold ckk; rw [if_neg y]
    rw [this] at g4
    exact g4
  have sb : skk M0 r k < 336 := by omega
  have l01 := gt0 (skk M0 r k)
  have tv11 : ((19 ≤ o ∧ o ≤ 31) ∨ o = 41) → v11 = gtv o x5 := fun y => by
    rw [e11, ex8]
    unfold gtv lvl
    (repeat' split) <;> omega
  have gf : (19 ≤ o ∧ o ≤ 31) → (gft o (mI M0 (r + 4) k) (mI M0 (r + 5) (skk M0 r k)) x5 ↔ okq (o - 1) (mI M0 (r + 5) (skk M0 r k)) x5) := fun y => by
    unfold gft
    rw [if_neg (by omega), if_neg (by omega), if_neg (by omega)]
  refine ⟨fun y => ⟨g4.1.2.1.1, (pop (two (by omega)) y4 z4 sb).mono (fun x M2 q => ?_)⟩, fun y1 => ⟨fun y => ⟨g4.1.2.1.1, (pop (two (by omega)) y4 z4 sb).mono (fun x M2 q => ?_)⟩, fun y2 => ⟨fun y v48 e48 => D1 (pp := x5 = 0) (one (by omega)) y4 z4 (Or.inl rfl) (by rw [e48]; split <;> omega) (by rw [e48]; split <;> omega) (by unfold gtv; rw [if_pos y]) (by unfold gft; rw [if_pos y]), fun y3 => ⟨fun y => D1 (pp := x5 = 1) (one (by omega)) y4 z4 i11 hx01 (by omega) (tv11 (Or.inr y)) (by unfold gft; rw [if_neg y3, if_pos y]), fun y4' => ⟨fun y => ?_, fun y5 => ⟨g4.1.2.1.1, (pop (two (by unfold grpO at ho; omega)) y4 z4 sb).mono (fun x M2 q => ?_)⟩⟩⟩⟩⟩⟩
  · obtain ⟨w1, w2, w3, w4⟩ := q
    refine ⟨i32s (by omega) (by omega), w2.1.1, fun v24 e24 => D1 (pp := okq (o - 1) (mI M0 (r + 5) (skk M0 r k)) x5) w2 w3 w4 i11 (by rw [e24]; split <;> omega) ?_ (tv11 (Or.inl (by omega))) (gf (by omega)).symm⟩
    have ok : okq (o - 1) (mI M0 (r + 5) (skk M0 r k)) x5 ↔ mI M0 (r + 5) (skk M0 r k) = x5 := by
      unfold okq
      rw [if_neg (by omega), if_pos (by omega)]
    rw [ok, e24, w1]
    split <;> omega
  · obtain ⟨w1, w2, w3, w4⟩ := q
    refine ⟨i32s (by omega) (by omega), w2.1.1, fun v24 e24 => D1 (pp := okq (o - 1) (mI M0 (r + 5) (skk M0 r k)) x5) w2 w3 w4 i11 (by rw [e24]; split <;> omega) ?_ (tv11 (Or.inl (by omega))) (gf (by omega)).symm⟩
    have ok : okq (o - 1) (mI M0 (r + 5) (skk M0 r k)) x5 ↔ (mI M0 (r + 5) (skk M0 r k) = 1 ∧ x5 = 1) := by
      unfold okq
      rw [if_pos (by omega)]
    rw [ok, e24, w1]
    split <;> omega
  · obtain ⟨-, ⟨k0', ⟨-, -, -, q11, -⟩, ⟨-, -, -, kk4, -⟩, ⟨-, -, -, nn4, -⟩⟩, -⟩ := id g4.1
    have e12' := g4.2.2.2.1.1
    rw [q11, nn4, e12', Int.toNat_natCast, h4k]
    refine ⟨k0', kk4, by omega, fun v62 e62 v67 e67 => D1 (pp := mI M0 (r + 4) k = if x5 = 1 then 4 else 0) (one (by omega)) y4 z4 hx01 (by rw [e67]; split <;> omega) ?_ (by unfold gtv; rw [if_neg y3, if_pos y]) (by unfold gft; rw [if_neg y3, if_neg y4', if_pos y])⟩
    have ev : v62 = if x5 = 1 then 4 else 0 := by rw [e62]; (repeat' split) <;> omega
    rw [e67, ev]
    by_cases yy : mI M0 (r + 4) k = if x5 = 1 then 4 else 0
    · rw [if_pos yy]; exact ⟨fun q => absurd q (by decide), fun q => absurd yy q⟩
    · rw [if_neg yy]; exact ⟨fun _ => yy, fun _ => rfl⟩
  · obtain ⟨w1, w2, w3, w4⟩ := q
    have hr : 19 ≤ o ∧ o ≤ 31 := by unfold grpO at ho; omega
    refine ⟨i32s (by omega) (by omega), w2.1.1, fun v24 e24 => D1 (pp := okq (o - 1) (mI M0 (r + 5) (skk M0 r k)) x5) w2 w3 w4 i11 (by rw [e24]; split <;> omega) ?_ (tv11 (Or.inl hr)) (gf hr).symm⟩
    have ok : okq (o - 1) (mI M0 (r + 5) (skk M0 r k)) x5 ↔ (mI M0 (r + 5) (skk M0 r k) = 0 ∧ x5 = 0) := by
      unfold okq
      rw [if_neg (by omega), if_neg (by omega)]
    rw [ok, e24, w1]
    split <;> omega
end RX2
