section
/-! The class's reader of texts, exactly: translate, the whole. -/
section TYB
variable {G : mG} {d z q w T A B D N C n p O P K Ab Be Cm Nn : Nat} {M M' : mM} {W pl nq : Nat → Int} {sm : Nat → Nat → Prop}
/-- no item yet -/
def s9c : st9 := ([], (0, 0, 0, 0), (0, 0))
/-- no game yet -/
def g9c : gm9 := ([], none, [])
theorem npz {q p : Nat} (s : q + 22 < p ∨ p + 15 < q) : p ≠ q ∧ p ≠ q + 1 ∧ p ≠ q + 11 ∧ q ≠ p ∧ q + 11 ≠ p ∧ q + 1 ≠ p ∧ p + 12 ≠ q + 1 := by
  refine ⟨?_, ?_, ?_, ?_, ?_, ?_, ?_⟩ <;> omega
theorem qnz6 (q : Nat) : q ≠ q + 11 ∧ q + 1 ≠ q + 11 ∧ q ≠ q + 1 ∧ q + 11 ≠ q + 1 ∧ q + 11 ≠ q ∧ q + 1 ≠ q := by
  refine ⟨?_, ?_, ?_, ?_, ?_, ?_⟩ <;> omega
theorem tz_nk {p q x : Nat} (v1 : ¬ (q ≤ x ∧ x ≤ q + 22)) (v2 : ¬ (p ≤ x ∧ x ≤ p + 15)) (y : x = p ∨ x = p + 12 ∨ x = q + 1) : False := by omega
theorem x_TR_translate (hF : FMx G) (hNn : n + 1 ≤ Nn) (h : TZ M z q p O P K Ab Be Cm) (hw : TZw M q w T A B D p O P Ab Be) (hW : Wf M w T A B D N C n) (wt : WTq M T A B D n W pl nq sm) : Ci G y_TR_translate (d + 8) [vr q, vr w, vr p] M (fun x M' => tzQ M z q w T A B D N C n p O P K Ab Be Cm x M' ∧ tlV W pl nq sm Nn n q p (its9 W pl nq sm Nn 60 Nn 0 s9c) (igs9 W pl nq sm Nn 60 Nn 0 s9c g9c) x M') := by
  have hn := hW.2.2.1
  have hN := hW.1.2.2.2.2.2.2.1
  obtain ⟨h1, h2, ⟨q0, q1, q2, q5, q6⟩, h4, h5, h6, ⟨s1, s2⟩, s3, h9⟩ := id h
  have z0 := h5.2.2.2.2.2.2.1.1
  obtain ⟨-, -, -, ⟨o1, o2, o3, o4⟩, ⟨pz0, pz1, pz2⟩, -⟩ := id h6
  have wz := hw w (Or.inl rfl)
  have npq : p ≠ q ∧ p ≠ q + 1 ∧ p ≠ q + 11 ∧ q ≠ p ∧ q + 11 ≠ p ∧ q + 1 ≠ p ∧ p + 12 ≠ q + 1 := npz s2
  have bz : q < mZ M ∧ q + 1 < mZ M ∧ q + 11 < mZ M := by
    clear h h1 h2 h4 h5 h6 h9 hW hw hF
    omega
  have qn : q ≠ q + 11 ∧ q + 1 ≠ q + 11 ∧ q ≠ q + 1 ∧ q + 11 ≠ q + 1 ∧ q + 11 ≠ q ∧ q + 1 ≠ q := qnz6 q
  refine k_TR_translate h1 ⟨q0, fun M2 e2 => ?_⟩
  have f2 : FA (fun _ => False) (fun x => x = q) M M2 := FA.ur rfl e2
  have w2 : mI M2 w 2 = ((n + 1 : Nat) : Int) := by rw [e2, mI_UR, hW.2.1]; rfl
  have rq2 : ∀ i, mR M2 q i = if i = 2 then p else mR M q i := fun i => by
    rw [e2, mR_UR]
    by_cases y : i = 2
    · rw [if_pos ⟨rfl, y⟩, if_pos y]
    · rw [if_neg (fun t => y t.2), if_neg y]
  have p2 : PK M2 z p O P K := h6.fa f2 npq.1
  rw [rq2 2, if_pos rfl, w2]
  refine ⟨by rw [(f2.2 w wz.2.2.2.2.2.2).1]; exact hW.1.1, p2.1, (s_Pr_clear (q := n + 1) (show mOk M2 by rw [e2]; exact h1) p2 (by omega)).mono (fun M6 k => ?_)⟩
  obtain ⟨O', P', K', o6, p6, nK, -, f6, ip, i12, gr⟩ := k
  have Z2 : mZ M2 = mZ M := by rw [e2]; rfl
  have S2 : mS M2 = mS M := by rw [e2]; rfl
  have z26 := f6.1.1
  have f26 : FA (fun x => x = p ∨ x = p + 12) (fun x => x = q ∨ x = p) M M6 := (f2.mono (fun _ _ y => y.elim) (fun _ _ y => Or.inl y)).trans2 f6 (fun _ _ y => y) (fun _ _ y => Or.inr y)
  have rq6 : ∀ i, mR M6 q i = if i = 2 then p else mR M q i := fun i => by rw [(f6.2 q (by rw [Z2]; exact bz.1)).2.2.2.1 npq.2.2.2.1]; exact rq2 i
  have rm6 : mR M6 (q + 11) = mR M (q + 11) := (f26.2 (q + 11) bz.2.2).2.2.2.1 (fun y => y.elim qn.2.2.2.2.1 npq.2.2.2.2.1)
  have rr6 : mR M6 (q + 1) = mR M (q + 1) := (f26.2 (q + 1) bz.2.1).2.2.2.1 (fun y => y.elim qn.2.2.2.2.2 npq.2.2.2.2.2.1)
  rw [rq6 1, if_neg (by decide), q2, rq6 2, if_pos rfl]
  refine ⟨o6, by rw [(f26.2 q bz.1).1]; exact q0, by rw [(f26.2 (q + 11) bz.2.2).1]; exact h5.1, fun M11 e11 => ?_⟩
  have f11 : FA (fun _ => False) (fun x => x = q + 11) M6 M11 := FA.ur rfl e11
  have rq11 : ∀ i, mR M11 q i = if i = 2 then p else mR M q i := fun i => by rw [e11, mR_UR, if_neg (fun t => qn.1 t.1)]; exact rq6 i
  have rm11 : ∀ i, mR M11 (q + 11) i = if i = 0 then p else mR M (q + 11) i := fun i => by
    rw [e11, mR_UR]
    by_cases y : i = 0
    · rw [if_pos ⟨rfl, y⟩, if_pos y]
    · rw [if_neg (fun t => y t.2), if_neg y, rm6]
  have rr11 : mR M11 (q + 1) = mR M (q + 1) := by
    funext i
    rw [e11, mR_UR, if_neg (fun t => qn.2.1 t.1), rr6]
  have i11 : mI M11 = mI M6 := by rw [e11]; rfl
  have o11 : mOk M11 := by rw [e11]; exact o6
  have Z11 : mZ M11 = mZ M6 := by rw [e11]; rfl
  have S11 : mS M11 = mS M6 := by rw [e11]; rfl
  have k11 : ∀ x, mK M11 x = mK M6 x := fun x => by rw [e11]; rfl
  rw [rq11 0, if_neg (by decide), q1, rq11 2, if_pos rfl]
  refine ⟨by rw [k11, (f26.2 (q + 1) bz.2.1).1]; exact h2.1, k_RR_begin o11 ⟨by rw [k11, (f26.2 (q + 1) bz.2.1).1]; exact h2.1, fun B2 b2 B4 b4 B6 b6 B8 b8 B10 b10 B12 b12 B14 b14 => ?_⟩⟩
  have g4 : FA (fun x => x = q + 1) (fun x => x = q + 1) M11 B4 := (FA.ur (S := fun x => x = q + 1) (R := fun x => x = q + 1) rfl b2).trans (FA.ur rfl b4)
  have c6 : FI (fun x => x = q + 1) B4 B6 := by rw [b6]; exact FI.ui rfl
  have c8 : FI (fun x => x = q + 1) B6 B8 := by rw [b8]; exact FI.ui rfl
  have c10 : FI (fun x => x = q + 1) B8 B10 := by rw [b10]; exact FI.ui rfl
  have c12 : FI (fun x => x = q + 1) B10 B12 := by rw [b12]; exact FI.ui rfl
  have c14 : FI (fun x => x = q + 1) B12 B14 := by rw [b14]; exact FI.ui rfl
  have cc := (((c6.trans c8).trans c10).trans c12).trans c14
  have g14 : FA (fun x => x = q + 1) (fun x => x = q + 1) M11 B14 := g4.trans (FI.fa cc)
  have o14 : mOk B14 := by rw [b14]; exact mOk_UI (by rw [b12]; exact mOk_UI (by rw [b10]; exact mOk_UI (by rw [b8]; exact mOk_UI (by rw [b6]; exact mOk_UI (by rw [b4]; exact mOk_UR (by rw [b2]; exact mOk_UR o11)) ⟨by decide, by decide⟩) ⟨by decide, by decide⟩) ⟨by decide, by decide⟩) ⟨by decide, by decide⟩) ⟨by decide, by decide⟩
  have r4 : ∀ x i, mR B4 x i = if x = q + 1 ∧ i = 1 then p else if x = q + 1 ∧ i = 0 then w else mR M11 x i := fun x i => by rw [b4, mR_UR, b2, mR_UR]
  have ZB : mZ B14 = mZ M6 := by rw [cc.2.2.2.2.1, b4, mZ_UR, b2, mZ_UR, Z11]
  have SB : mS B14 = mS M6 := by rw [cc.2.2.2.2.2.1, b4, mS_UR, b2, mS_UR, S11]
  have F14 : FA (fun x => x = p ∨ x = p + 12 ∨ x = q + 1) (tzR q p) M B14 := by
    have a1 : FA (fun x => x = p ∨ x = p + 12 ∨ x = q + 1) (tzR q p) M M6 := f26.mono (fun x _ y => y.elim (fun u => Or.inl u) (fun u => Or.inr (Or.inl u))) (fun x _ y => y.elim (fun u => Or.inl u) (fun u => Or.inr (Or.inr (Or.inr u))))
    exact (a1.trans2 f11 (fun _ _ y => y.elim) (fun x _ y => Or.inr (Or.inr (Or.inl y)))).trans2 g14 (fun x _ y => Or.inr (Or.inr y)) (fun x _ y => Or.inr (Or.inl y))
  have pk14 : PK B14 z p O' P' K' := (p6.fa f11 npq.2.2.1).fa g14 npq.2.1
  have ib : ∀ x, x ≠ q + 1 → mI B14 x = mI M6 x := fun x hx => by rw [cc.2.2.2.2.2.2 x hx, b4, mI_UR, b2, mI_UR, i11]
  have iq : mI B14 (q + 1) 2 = 0 ∧ mI B14 (q + 1) 3 = 0 ∧ mI B14 (q + 1) 5 = 0 ∧ mI B14 (q + 1) 19 = 0 := by
    refine ⟨?_, ?_, ?_, ?_⟩
    · rw [mI_ui _ _ b14, if_neg (fun t => absurd t.2 (by first | decide | simp)), mI_ui _ _ b12, if_neg (fun t => absurd t.2 (by first | decide | simp)), mI_ui _ _ b10, if_neg (fun t => absurd t.2 (by first | decide | simp)), mI_ui _ _ b8, if_neg (fun t => absurd t.2 (by first | decide | simp)), mI_ui _ _ b6, if_pos ⟨rfl, rfl⟩]
    · rw [mI_ui _ _ b14, if_neg (fun t => absurd t.2 (by first | decide | simp)), mI_ui _ _ b12, if_neg (fun t => absurd t.2 (by first | decide | simp)), mI_ui _ _ b10, if_neg (fun t => absurd t.2 (by first | decide | simp)), mI_ui _ _ b8, if_pos ⟨rfl, rfl⟩]
    · rw [mI_ui _ _ b14, if_neg (fun t => absurd t.2 (by first | decide | simp)), mI_ui _ _ b12, if_pos ⟨rfl, rfl⟩]
    · rw [mI_ui _ _ b14, if_pos ⟨rfl, rfl⟩]
  have hOP : (O' = O ∧ P' = P) ∨ (mZ M ≤ O' ∧ mZ M ≤ P') := by
    rcases gr with ⟨u1, u2, -⟩ | ⟨u1, u2, -⟩
    · exact Or.inl ⟨u1, u2⟩
    · exact Or.inr ⟨by omega, by omega⟩
  have X := tz_start h hw hW o14 F14 pk14 nK hOP (fun i => by
      rw [cc.2.2.1, r4, rr11]
      by_cases y1 : i = 1
      · rw [if_pos ⟨rfl, y1⟩, if_pos y1]
      · rw [if_neg (fun t => y1 t.2), if_neg y1]
        by_cases y0 : i = 0
        · rw [if_pos ⟨rfl, y0⟩, if_pos y0]
        · rw [if_neg (fun t => y0 t.2), if_neg y0]) (fun i => by rw [cc.2.2.1, r4, if_neg (fun t => qn.2.2.1 t.1), if_neg (fun t => qn.2.2.1 t.1), rq11]) (fun i => by rw [cc.2.2.1, r4, if_neg (fun t => qn.2.2.2.1 t.1), if_neg (fun t => qn.2.2.2.1 t.1), rm11]) (by rw [ib p npq.2.1]; exact ip) (by rw [ib (p + 12) npq.2.2.2.2.2.2]; exact i12) iq
  have p14 : mI B14 p 2 = ((0 : Nat) : Int) := by rw [ib p npq.2.1]; exact ip.1
  have wt14 : WTq B14 T A B D n W pl nq sm := by
    have key : ∀ x, (x = w ∨ x = T ∨ x = A ∨ x = B ∨ x = D) → mI B14 x = mI M x := fun x hx => by
      obtain ⟨v1, v2, v3, v4, v5, v6, v7⟩ := hw x hx
      refine (F14.2 x v7).2.2.2.2 (fun y => ?_)
      exact tz_nk v1 v2 y
    exact wt.cg (key T (Or.inr (Or.inl rfl))) (key A (Or.inr (Or.inr (Or.inl rfl)))) (key B (Or.inr (Or.inr (Or.inr (Or.inl rfl))))) (key D (Or.inr (Or.inr (Or.inr (Or.inr rfl)))))
  have zs14 : itZ q p s9c B14 := by
    refine ⟨FT.zz iq.2.1, fun _ => ⟨⟨by rw [iq.2.2.2]; rfl, fun i e hi => absurd hi (by simp [s9c])⟩, ?_, ?_, ?_, ?_, rfl, rfl, rfl⟩⟩
    · rw [ib p npq.2.1]; exact ip.2.1
    · rw [ib p npq.2.1]; exact ip.2.2.1
    · rw [ib p npq.2.1]; exact ip.2.2.2.1
    · rw [ib p npq.2.1]; exact ⟨fun _ => rfl, fun _ => ip.2.2.2.2⟩
  have nil9 : ∀ {l1 l2 : List nm9} {e : nm9}, s9c.1 = l1 ++ e :: l2 → False := fun {l1 l2 e} h => by
    have h : ([] : List nm9) = l1 ++ e :: l2 := h
    exact absurd h.symm (by simp)
  have cg14 : CGm B14 p O' P' W pl nq sm Nn n s9c g9c := ⟨0, fun _ => 0, fun _ => 0, fun _ => 0, p14, fun l1 e l2 h => (nil9 h).elim, fun l1 e l2 h => (nil9 h).elim, fun x hx => absurd hx (Nat.not_lt_zero _), ⟨rfl, fun v x hx => absurd hx (by simp [g9c]), fun l1 e l2 h => (nil9 h).elim⟩, ⟨fun _ => rfl, fun tg ht => absurd ht (by simp [g9c])⟩, rfl, fun c cm hc => absurd hc (by simp [g9c])⟩
  have J14 : tlJ T A B D n O' P' W pl nq sm Nn q p (its9 W pl nq sm Nn 60 Nn 0 s9c) (igs9 W pl nq sm Nn 60 Nn 0 s9c g9c) 0 0 B14 := ⟨wt14, Rc.refl, Nat.le_refl _, s9c, g9c, zs14, fun _ => rfl, fun u => absurd rfl u, fun _ => cg14, fun _ => rfl⟩
  clear f2 f6 f26 f11 g4 c6 c8 c10 c12 c14 g14 r4 rq2 rq6 rm6 rr6 rq11 rm11 rr11 b2 b4 b6 b8 b10 b12 b14 e2 e11 i11 ib cc k11 w2 p2 p6 ip i12
  refine ⟨o14, ?_⟩
  have zM : mZ M6 = mZ M ∧ mS M6 = mS M ∧ K' = K ∨ (2 * K ≤ K' ∧ mZ M6 = mZ M + 2 ∧ mS M6 = mS M + 2 * K') := by
    rcases gr with ⟨-, -, u3, u4, u5⟩ | ⟨-, -, u3, u4, u5⟩
    · exact Or.inl ⟨by omega, by omega, u3⟩
    · exact Or.inr ⟨u3, by omega, by omega⟩
  have K128 := h6.2.2.2.2.2.1.1
  refine hmono_41 (x_tl41 (M0 := B14) (Ab0 := Ab) (Be0 := Be) (Cm0 := Cm) hF hNn (n + 1) 0 B14 Ab Be Cm 0 0 (fun _ => 0) (fun _ => 0) (fun _ => 0) 0 0 0 0 (by omega) (by omega) X p14 iq.1 (by omega) (by omega) iq.2.2.1 trF.refl J14) (fun x M' k => ?_)
  obtain ⟨⟨Ab1, Be1, Cm1, V, F, ns, sf, ef, c, cnt, L, h1', ⟨t1, t2, t3, t4⟩, e1, e2⟩, tv⟩ := k
  refine ⟨?_, tv⟩
  clear tv J14 zs14 wt14
  refine ⟨O', P', K', Ab1, Be1, Cm1, V, F, ns, sf, ef, c, cnt, L, h1', ?_, ⟨hOP, ?_, ?_⟩, ⟨?_, ?_⟩, e1, e2⟩
  · have a1 : FA (tzS q p O P Ab Be) (tzR q p) M B14 := F14.mono (fun x _ y => tz4 y) (fun _ _ y => y)
    exact a1.trans2 t1 (fun x hx y => tz3 hx hOP y) (fun x _ y => Or.inr (Or.inr (Or.inl y)))
  · exact t2.1.imp (fun u => u) (fun u => Nat.le_trans F14.1.1 u)
  · exact t2.2.imp (fun u => u) (fun u => Nat.le_trans F14.1.1 u)
  · clear h hw hW h1 h2 h4 h5 h6 h9 X F14 pk14 o14 h1' t1 t2 hOP o1 o2 s2 s3 wz gr npq qn
    omega
  · clear h hw hW h1 h2 h4 h5 h6 h9 X F14 pk14 o14 h1' t1 t2 hOP o1 o2 s2 s3 wz gr npq qn
    omega
end TYB
end
section
/-! The reference: the items of a text. -/
section ITM
variable {w : Nat → Int} {n : Nat}
theorem ac_le : ∀ {f : Nat} {l : List Int} {k : Nat}, Ac w n f l k → k ≤ n := by
  intro f
  induction f with
  | zero => intro l k h; exact Nat.le_of_eq h.2
  | succ f ih =>
    intro l k h
    cases l with
    | nil => exact h.elim
    | cons x r =>
      have h' : (if x = 75 then Ac w n f r k else if x < 50 then w k = x ∧ Ac w n f r (k + 1) else ∃ ys t, ex x (w k) = some (ys, t) ∧ Ac w n f (ys ++ r) (k + t)) := h
      by_cases c1 : x = 75
      · rw [if_pos c1] at h'; exact ih h'
      · rw [if_neg c1] at h'
        by_cases c2 : x < 50
        · rw [if_pos c2] at h'; have := ih h'.2; omega
        · rw [if_neg c2] at h'
          obtain ⟨ys, t, e, a⟩ := h'
          have := ih a
          omega
/-- sets, joined by & -/
def Se (w : Nat → Int) : Nat → Nat → Nat → Prop
  | 0, _, _ => False
  | f + 1, p, q => w p = 36 ∧ w (p + 1) = 1 ∧ w (p + 2) = 38 ∧ w (p + 3) = 23 ∧ ∃ c, Eo w 6 (p + 4) c ∧ w c = 37 ∧ ((q = c + 1 ∧ w (c + 1) ≠ 29) ∨ (w (c + 1) = 29 ∧ Se w f (c + 2) q))
def Ss (w : Nat → Int) (p s : Nat) : Prop := (w p = 10 ∧ s = p + 1) ∨ (w p ≠ 10 ∧ ∃ f, Se w f p s)
/-- branches, joined by + -/
def Br (w : Nat → Int) : Nat → Nat → Nat → Prop
  | 0, _, _ => False
  | f + 1, p, e => ∃ q s, Eo w 5 p q ∧ w q = 33 ∧ Ss w (q + 1) s ∧ ((s = e ∧ w s ≠ 24) ∨ (w s = 24 ∧ Br w f (s + 1) e))
def Vs (w : Nat → Int) (p i : Nat) : Prop := (w p = 5 ∧ i = p + 1) ∨ (w p ≠ 5 ∧ ∃ j, Eo w 6 p j ∧ w j = 16 ∧ Eo w 6 (j + 1) i)
/-- an item from k to its end at e -/
def It (w : Nat → Int) (k e : Nat) : Prop := w e = 34 ∧ k < e ∧ (((w k = 3 ∨ w k = 6) ∧ w (k + 1) = 1 ∧ w (k + 2) = 23 ∧ Eo w 6 (k + 3) e) ∨ (w k = 4 ∧ w (k + 1) = 1 ∧ w (k + 2) = 33 ∧ ∃ i, Vs w (k + 3) i ∧ ((w i ≠ 9 ∧ i = e) ∨ (w i = 9 ∧ Eo w 6 (i + 1) e))) ∨ ((w k = 7 ∨ w k = 8) ∧ ∃ j f, Eo w 6 (k + 1) j ∧ w j = 17 ∧ Br w f (j + 1) e) ∨ (w k = 11 ∧ Eo w 6 (k + 1) e))
theorem ac_set : ∀ {f k : Nat} {r : List Int}, Ac w n f (59 :: 60 :: r) k → ∃ s g f', g < f ∧ k < s ∧ Se w f' k s ∧ Ac w n g r s := by
  intro f
  induction f using Nat.strongRecOn with
  | ind f ih =>
    intro k r h
    obtain ⟨g, ys, t, hg, e, a⟩ := ac_n (by omega) (by omega) h
    rw [ex_59] at e
    unfold ex59 at e
    by_cases c1 : w k = 36
    · rw [if_pos c1] at e
      cases e
      have a' : Ac w n g (1 :: 38 :: 23 :: 61 :: 37 :: 75 :: 60 :: r) (k + 1) := a
      obtain ⟨g1, l1, d1, a1⟩ := ac_t (by omega) a'
      obtain ⟨g2, l2, d2, a2⟩ := ac_t (by omega) a1
      obtain ⟨g3, l3, d3, a3⟩ := ac_t (by omega) a2
      obtain ⟨c, g4, l4, m4, e4, a4⟩ := ac_rule a3
      obtain ⟨g5, l5, d5, a5⟩ := ac_t (by omega) a4
      obtain ⟨g6, l6, a6⟩ := ac_l a5
      obtain ⟨g7, ys7, t7, l7, e7, a7⟩ := ac_n (by omega) (by omega) a6
      rw [ex_60] at e7
      unfold ex60 at e7
      by_cases c2 : w (c + 1) = 29
      · rw [if_pos c2] at e7
        cases e7
        have a7' : Ac w n g7 (59 :: 60 :: r) (c + 2) := a7
        obtain ⟨s, g8, f8, l8, m8, s8, a8⟩ := ih g7 (by omega) a7'
        exact ⟨s, g8, f8 + 1, by omega, by omega, ⟨c1, d1, d2, d3, c, e4, d5, Or.inr ⟨c2, s8⟩⟩, a8⟩
      · rw [if_neg c2] at e7
        cases e7
        exact ⟨c + 1, g7, 1, by omega, by omega, ⟨c1, d1, d2, d3, c, e4, d5, Or.inl ⟨rfl, c2⟩⟩, a7⟩
    · rw [if_neg c1] at e
      cases e
theorem ac_sets {f k : Nat} {r : List Int} (h : Ac w n f (58 :: r) k) : ∃ s g, g < f ∧ k < s ∧ Ss w k s ∧ Ac w n g r s := by
  obtain ⟨g, ys, t, hg, e, a⟩ := ac_n (by omega) (by omega) h
  rw [ex_58] at e
  unfold ex58 at e
  by_cases c1 : w k = 10
  · rw [if_pos c1] at e
    cases e
    exact ⟨k + 1, g, hg, by omega, Or.inl ⟨c1, rfl⟩, a⟩
  · rw [if_neg c1] at e
    cases e
    have a' : Ac w n g (59 :: 60 :: r) k := a
    obtain ⟨s, g1, f1, l1, m1, s1, a1⟩ := ac_set a'
    exact ⟨s, g1, by omega, m1, Or.inr ⟨c1, f1, s1⟩, a1⟩
theorem ac_branches : ∀ {f k : Nat} {r : List Int}, Ac w n f (56 :: 57 :: r) k → ∃ e g f', g < f ∧ k < e ∧ Br w f' k e ∧ Ac w n g r e := by
  intro f
  induction f using Nat.strongRecOn with
  | ind f ih =>
    intro k r h
    obtain ⟨g, ys, t, hg, e, a⟩ := ac_n (by omega) (by omega) h
    rw [ex_56] at e
    unfold ex56 at e
    cases e
    have a' : Ac w n g (63 :: 33 :: 58 :: 57 :: r) k := a
    obtain ⟨q, g1, l1, m1, e1, a1⟩ := ac_or a'
    obtain ⟨g2, l2, d2, a2⟩ := ac_t (by omega) a1
    obtain ⟨s, g3, l3, m3, s3, a3⟩ := ac_sets a2
    obtain ⟨g4, ys4, t4, l4, e4, a4⟩ := ac_n (by omega) (by omega) a3
    rw [ex_57] at e4
    unfold ex57 at e4
    by_cases c1 : w s = 24
    · rw [if_pos c1] at e4
      cases e4
      have a4' : Ac w n g4 (56 :: 57 :: r) (s + 1) := a4
      obtain ⟨e5, g5, f5, l5, m5, b5, a5⟩ := ih g4 (by omega) a4'
      exact ⟨e5, g5, f5 + 1, by omega, by omega, ⟨q, s, e1, d2, s3, Or.inr ⟨c1, b5⟩⟩, a5⟩
    · rw [if_neg c1] at e4
      cases e4
      exact ⟨s, g4, 1, by omega, by omega, ⟨q, s, e1, d2, s3, Or.inl ⟨rfl, c1⟩⟩, a4⟩
/-- the next item -/
theorem ac_item {f k : Nat} (h : Ac w n f [50] k) : (w k = 0 ∧ k + 1 = n) ∨ (w k ≠ 0 ∧ ∃ e g, g < f ∧ It w k e ∧ Ac w n g [50] (e + 1)) := by
  obtain ⟨g, ys, t, hg, e, a⟩ := ac_n (by omega) (by omega) h
  rw [ex_50] at e
  unfold ex50 at e
  by_cases c0 : w k = 0
  · rw [if_pos c0] at e
    cases e
    have a' : Ac w n g [] (k + 1) := a
    cases g with
    | zero => exact Or.inl ⟨c0, a'.2⟩
    | succ g => exact a'.elim
  rw [if_neg c0] at e
  refine Or.inr ⟨c0, ?_⟩
  by_cases c1 : w k = 3 ∨ w k = 6
  · rw [if_pos c1] at e
    cases e
    have a' : Ac w n g (51 :: 34 :: [50]) (k + 1) := a
    obtain ⟨g1, ys1, t1, l1, e1, a1⟩ := ac_n (by omega) (by omega) a'
    rw [ex_51] at e1
    unfold ex51 at e1
    cases e1
    have a1' : Ac w n g1 (1 :: 23 :: 61 :: 34 :: [50]) (k + 1) := a1
    obtain ⟨g2, l2, d2, a2⟩ := ac_t (by omega) a1'
    obtain ⟨g3, l3, d3, a3⟩ := ac_t (by omega) a2
    obtain ⟨j, g4, l4, m4, e4, a4⟩ := ac_rule a3
    obtain ⟨g5, l5, d5, a5⟩ := ac_t (by omega) a4
    exact ⟨j, g5, by omega, ⟨d5, by omega, Or.inl ⟨c1, d2, d3, e4⟩⟩, a5⟩
  rw [if_neg c1] at e
  by_cases c2 : w k = 4
  · rw [if_pos c2] at e
    cases e
    have a' : Ac w n g (1 :: 33 :: 53 :: 54 :: 34 :: [50]) (k + 1) := a
    obtain ⟨g2, l2, d2, a2⟩ := ac_t (by omega) a'
    obtain ⟨g3, l3, d3, a3⟩ := ac_t (by omega) a2
    have hv : ∃ i g4, g4 < g3 ∧ k + 3 < i ∧ Vs w (k + 3) i ∧ Ac w n g4 (54 :: 34 :: [50]) i := by
      obtain ⟨g4, ys4, t4, l4, e4, a4⟩ := ac_n (by omega) (by omega) a3
      rw [ex_53] at e4
      unfold ex53 at e4
      by_cases c3 : w (k + 3) = 5
      · rw [if_pos c3] at e4
        cases e4
        exact ⟨k + 4, g4, l4, by omega, Or.inl ⟨c3, rfl⟩, a4⟩
      · rw [if_neg c3] at e4
        cases e4
        have a4' : Ac w n g4 (61 :: 16 :: 61 :: 54 :: 34 :: [50]) (k + 3) := a4
        obtain ⟨j, g5, l5, m5, e5, a5⟩ := ac_rule a4'
        obtain ⟨g6, l6, d6, a6⟩ := ac_t (by omega) a5
        obtain ⟨i, g7, l7, m7, e7, a7⟩ := ac_rule a6
        exact ⟨i, g7, by omega, by omega, Or.inr ⟨c3, j, e5, d6, e7⟩, a7⟩
    obtain ⟨i, g4, l4, m4, v4, a4⟩ := hv
    obtain ⟨g5, ys5, t5, l5, e5, a5⟩ := ac_n (by omega) (by omega) a4
    rw [ex_54] at e5
    unfold ex54 at e5
    by_cases c4 : w i = 9
    · rw [if_pos c4] at e5
      cases e5
      have a5' : Ac w n g5 (61 :: 34 :: [50]) (i + 1) := a5
      obtain ⟨j, g6, l6, m6, e6, a6⟩ := ac_rule a5'
      obtain ⟨g7, l7, d7, a7⟩ := ac_t (by omega) a6
      exact ⟨j, g7, by omega, ⟨d7, by omega, Or.inr (Or.inl ⟨c2, d2, d3, i, v4, Or.inr ⟨c4, e6⟩⟩)⟩, a7⟩
    · rw [if_neg c4] at e5
      cases e5
      have a5' : Ac w n g5 (34 :: [50]) i := a5
      obtain ⟨g7, l7, d7, a7⟩ := ac_t (by omega) a5'
      exact ⟨i, g7, by omega, ⟨d7, by omega, Or.inr (Or.inl ⟨c2, d2, d3, i, v4, Or.inl ⟨c4, rfl⟩⟩)⟩, a7⟩
  rw [if_neg c2] at e
  by_cases c3 : w k = 7 ∨ w k = 8
  · rw [if_pos c3] at e
    cases e
    have a' : Ac w n g (61 :: 17 :: 56 :: 57 :: 34 :: [50]) (k + 1) := a
    obtain ⟨j, g1, l1, m1, e1, a1⟩ := ac_rule a'
    obtain ⟨g2, l2, d2, a2⟩ := ac_t (by omega) a1
    obtain ⟨e3, g3, f3, l3, m3, b3, a3⟩ := ac_branches a2
    obtain ⟨g4, l4, d4, a4⟩ := ac_t (by omega) a3
    exact ⟨e3, g4, by omega, ⟨d4, by omega, Or.inr (Or.inr (Or.inl ⟨c3, j, f3, e1, d2, b3⟩))⟩, a4⟩
  rw [if_neg c3] at e
  by_cases c4 : w k = 11
  · rw [if_pos c4] at e
    cases e
    have a' : Ac w n g (61 :: 34 :: [50]) (k + 1) := a
    obtain ⟨j, g1, l1, m1, e1, a1⟩ := ac_rule a'
    obtain ⟨g2, l2, d2, a2⟩ := ac_t (by omega) a1
    exact ⟨j, g2, by omega, ⟨d2, by omega, Or.inr (Or.inr (Or.inr ⟨c4, e1⟩))⟩, a2⟩
  rw [if_neg c4] at e
  cases e
end ITM
end
