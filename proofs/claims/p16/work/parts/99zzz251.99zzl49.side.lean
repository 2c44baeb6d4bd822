/-! Class and reference side by side in the law's loop. -/
section LIV
variable {G : mG} {d t a o b N n x Ps Pc B0 B1 : Nat} {Nc Nr Nn : tP9} {l l1 l2 : Int} {xs : Int → Int} {M M' M1 M2 : mM} {C Y : Nat → Prop} {c9 c8 : tG9}
theorem CI.ok (h : CI c9 C n t Ps Pc M) : mOk M := by
  obtain ⟨T, Kt, N, A, B, D, Cw, p, O, P, K, p', O', P', K', Ab, Be, Cm, U, Ag, Bg, Cg, cn, cc, bc, Ls, v, R, k, Z, h⟩ := h
  exact h.1
theorem CI.up (h : CI c9 C n t Ps Pc M) : CI c9 C (n + 1) t Ps Pc M := by
  obtain ⟨T, Kt, N, A, B, D, Cw, p, O, P, K, p', O', P', K', Ab, Be, Cm, U, Ag, Bg, Cg, cn, cc, bc, Ls, v, R, k, Z, h⟩ := h
  exact ⟨T, Kt, N, A, B, D, Cw, p, O, P, K, p', O', P', K', Ab, Be, Cm, U, Ag, Bg, Cg, cn, cc, bc, Ls, v, R, k, Z, h.up⟩
theorem CI.clt (h : CI c9 C n t Ps Pc M) (u : C x) : x < mZ M := by
  obtain ⟨T, Kt, N, A, B, D, Cw, p, O, P, K, p', O', P', K', Ab, Be, Cm, U, Ag, Bg, Cg, cn, cc, bc, Ls, v, R, k, Z, h⟩ := h
  exact h.2.2.2.2.1.2.2.2.2 x u
theorem CI.tlt (h : CI c9 C n t Ps Pc M) : t < mZ M := by
  obtain ⟨T, Kt, N, A, B, D, Cw, p, O, P, K, p', O', P', K', Ab, Be, Cm, U, Ag, Bg, Cg, cn, cc, bc, Ls, v, R, k, Z, h⟩ := h
  exact h.top.2.1.1
/-- a step of the class, seen from outside: the out array at o may be written, an exception may be made -/
def cSt (o : Nat) (C : Nat → Prop) (n t Ps Pc : Nat) (Nn : tP9) (M M' : mM) : Prop := ∃ (C' : Nat → Prop) (Ps' Pc' : Nat), CI Nn.2 C' (n + 1) t Ps' Pc' M' ∧ FC (fun x => C x ∨ x = o) M M' ∧ (∀ x, C' x → C x ∨ (mZ M ≤ x ∧ x < mZ M')) ∧ mS M' + Ps ≤ mS M + Ps' + 6 ∧ 64 * mZ M' + Pc ≤ 64 * mZ M + Pc' + 64 ∧ tE Nn M' t
theorem cQ0.cs (h : cQ0 Nn.2 C n t Ps Pc M M') (e : tE Nn M' t) : cSt o C n t Ps Pc Nn M M' := by
  obtain ⟨C', Ps', Pc', h1, h2, h3, h4, h5⟩ := h
  exact ⟨C', Ps', Pc', h1, h2.mono (fun _ _ u => Or.inl u), h3, by omega, by omega, e⟩
theorem cQ.cs (h : cQ Nn.2 C n t Ps Pc M M') (e : tE Nn M t) : cSt o C n t Ps Pc Nn M M' := h.1.cs (h.2.trans e)
theorem fc_new {k w c : Nat} : FC (fun _ => False) M (mNew M k w c) := by
  refine ⟨⟨Nat.le_succ _, Nat.le_add_right _ _⟩, fun x hx => ?_⟩
  have q : Eqc M (mNew M k w c) x := eqc_new (by omega)
  exact ⟨q.1, q.2.1, fun _ => ⟨q.2.2.2.1, q.2.2.2.2, q.2.2.1⟩⟩
theorem CI.thr (h : CI Nn.2 C n t Ps Pc M) (e : tE Nn M t) : cSt o C n t Ps Pc Nn M (mNew M 50 0 6) := by
  have f : FC (fun _ => False) M (mNew M 50 0 6) := fc_new
  obtain ⟨h1, h2, h3⟩ := h.off (mOk_New h.ok) f (fun _ u => u.elim)
  exact ⟨C, Ps, Pc, h1.up, f.mono (fun _ _ u => u.elim), fun x u => Or.inl u, by show mS M + 6 + Ps ≤ mS M + Ps + 6; omega, by show 64 * (mZ M + 1) + Pc ≤ 64 * mZ M + Pc + 64; omega, tE.off h f (fun _ u => u.elim) e⟩
theorem cQ0.out {r : Int} (h : cQ0 Nn.2 C n t Ps Pc M M1) (e : tE Nn M1 t) (no : ¬ C o) (oz : o < mZ M) (ir : i64 r) : cSt o C n t Ps Pc Nn M (mUL M1 o 0 r) := by
  obtain ⟨C', Ps', Pc', h1, h2, h3, h4, h5⟩ := h
  have no' : ¬ C' o := fun u => (h3 o u).elim no (fun w => by omega)
  have f : FC (fun x => x = o) M1 (mUL M1 o 0 r) := ⟨⟨Nat.le_refl _, Nat.le_refl _⟩, fun x _ => ⟨rfl, rfl, fun nx => ⟨funext fun _ => if_neg (fun u => nx u.1), rfl, rfl⟩⟩⟩
  obtain ⟨k1, k2, k3⟩ := h1.off (mOk_UL h1.ok ir) f (fun x u w => no' (by rw [← u]; exact w))
  refine ⟨C', Ps', Pc', k1, ?_, h3, by show mS M1 + Ps ≤ _; omega, by show 64 * mZ M1 + Pc ≤ _; omega, (sE.mi (M := M1) (M' := mUL M1 o 0 r) rfl rfl).trans e⟩
  refine ⟨h2.1, fun x hx => ⟨(h2.2 x hx).1, (h2.2 x hx).2.1, fun nz => ?_⟩⟩
  obtain ⟨g1, g2, g3⟩ := (h2.2 x hx).2.2 (fun u => nz (Or.inl u))
  exact ⟨(funext fun _ => if_neg (fun u => nz (Or.inr u.1)) : mL (mUL M1 o 0 r) x = mL M1 x).trans g1, g2, g3⟩
theorem RI.ownlt (h : RI Nr M a) (u : own M a x) : x < mZ M ∧ a ≤ x := by
  have w := h.2.1
  have zz := w.2.2.2
  rcases u with u | ⟨q, hq, e⟩
  · exact ⟨by omega, u.1⟩
  · have p1 := (w.nu hq).2.2.1.2
    have p2 := (w.arr hq).2
    have p3 := nums_in hq
    exact ⟨by omega, by rw [e]; rcases p2 with y | y <;> omega⟩
/-- both objects, the script at b, the out array at o; n calls were made; the class's tape holds Nc characters, the reference's Nr -/
def IV0 (C : Nat → Prop) (Ps Pc o a b N : Nat) (xs : Int → Int) (t B0 B1 n : Nat) (Nc Nr : tP9) (M : mM) : Prop := CI Nc.2 C n t Ps Pc M ∧ RI Nr M a ∧ tE Nc M t ∧ (∀ x, C x → t ≤ x ∧ ¬ own M a x ∧ x ≠ o) ∧ (Scr b N xs M ∧ b < t ∧ t ≤ a) ∧ (mK M o = 33 ∧ 0 < mN M o ∧ o < mZ M ∧ ¬ own M a o) ∧ mS M ≤ B0 + Ps + 2 * psum (cp M) (nums a) + 6 * n ∧ 64 * mZ M ≤ B1 + Pc + 64 * psum (fun p => cp M p / 16) (nums a) + 64 * n
def IV (o a b N : Nat) (xs : Int → Int) (t B0 B1 n : Nat) (Nc Nr : tP9) (M : mM) : Prop := ∃ (C : Nat → Prop) (Ps Pc : Nat), IV0 C Ps Pc o a b N xs t B0 B1 n Nc Nr M
theorem Scr.fc (h : Scr b N xs M) (f : FC Y M M') (hb : b < mZ M) (ny : ¬ Y b) : Scr b N xs M' := by
  obtain ⟨f1, f2, f3⟩ := f.2 b hb
  unfold Scr at h ⊢
  rw [f1, f2, (f3 ny).2.2]
  exact h
theorem IV0.cls (h : IV0 C Ps Pc o a b N xs t B0 B1 n Nc Nr M) (q : cSt o C n t Ps Pc Nn M M1) : IV o a b N xs t B0 B1 (n + 1) Nn Nr M1 ∧ Scr b N xs M1 ∧ mK M1 a = 14 := by
  obtain ⟨h1, h2, h3, h4, ⟨h5, h5b, h5a⟩, ⟨o1, o2, o3, o4⟩, h7, h8⟩ := h
  obtain ⟨C', Ps', Pc', q1, q2, q3, q4, q5, q6⟩ := q
  have tz := h1.tlt
  have bz : b < mZ M := by omega
  have az : a < mZ M := by have := h2.2.1.2.2.2; omega
  obtain ⟨r1, r2, r3⟩ := h2.off q1.ok q2 (fun x u => u.elim (fun v => (h4 x v).2.1) (fun v => by rw [v]; exact o4))
  have e1 : psum (cp M1) (nums a) = psum (cp M) (nums a) := psum_cg _ (fun p hp => (r2 p hp).2.2.1)
  have e2 : psum (fun p => cp M1 p / 16) (nums a) = psum (fun p => cp M p / 16) (nums a) := psum_cg _ (fun p hp => by rw [(r2 p hp).2.2.1])
  have nb : ¬ (C b ∨ b = o) := fun u => by
    rcases u with u | u
    · have := (h4 b u).1
      omega
    · rw [← u, h5.1] at o1
      cases o1
  have sc : Scr b N xs M1 := h5.fc q2 bz nb
  have k14 : mK M1 a = 14 := by rw [(q2.2 a az).1]; exact h2.2.1.1.1
  have zz := q2.1.1
  refine ⟨⟨C', Ps', Pc', q1, r1, q6, fun x u => ?_, ⟨sc, h5b, h5a⟩, ⟨by rw [(q2.2 o o3).1]; exact o1, by rw [(q2.2 o o3).2.1]; exact o2, by omega, fun u => o4 ((r3 o).1 u)⟩, by rw [e1]; omega, by rw [e2]; omega⟩, sc, k14⟩
  rcases q3 x u with v | v
  · exact ⟨(h4 x v).1, fun w => (h4 x v).2.1 ((r3 x).1 w), (h4 x v).2.2⟩
  · exact ⟨by omega, fun w => by have := (h2.ownlt ((r3 x).1 w)).1; omega, by omega⟩
theorem IV.ref (h : IV o a b N xs t B0 B1 n Nc Nr M) (q1 : RI Nn M2 a) (q2 : FR M a M2) (q3 : mS M ≤ mS M2) : IV o a b N xs t B0 B1 n Nc Nn M2 := by
  obtain ⟨C, Ps, Pc, h1, h2, h3, h4, ⟨h5, h5b, h5a⟩, ⟨o1, o2, o3, o4⟩, h7, h8⟩ := h
  have f := q2.fc q3
  have tz := h1.tlt
  have bz : b < mZ M := by omega
  obtain ⟨c1, c2, c3⟩ := h1.off q1.1 f (fun x u v => (h4 x v).2.1 u)
  have ow : ∀ x, x < mZ M → own M2 a x → own M a x := fun x hx u => by
    rcases u with u | ⟨q, hq, e⟩
    · exact Or.inl u
    · rcases q2.2.2.2.1 q hq with w | w
      · exact Or.inr ⟨q, hq, by rw [e, w]⟩
      · omega
  have nb : ¬ own M a b := fun u => by have := (h2.ownlt u).2; omega
  have zz := f.1.1
  obtain ⟨m1, m2⟩ := q2.2.2.2.2
  exact ⟨C, Ps, Pc, c1, q1, tE.off h1 f (fun x u v => (h4 x v).2.1 u) h3, fun x u => ⟨(h4 x u).1, fun w => (h4 x u).2.1 (ow x (h1.clt u) w), (h4 x u).2.2⟩, ⟨h5.fc f bz nb, h5b, h5a⟩, ⟨by rw [(f.2 o o3).1]; exact o1, by rw [(f.2 o o3).2.1]; exact o2, by omega, fun u => o4 (ow o o3 u)⟩, by omega, by omega⟩
theorem IV.up (h : IV o a b N xs t B0 B1 n Nc Nr M) : IV o a b N xs t B0 B1 (n + 1) Nc Nr M := by
  obtain ⟨C, Ps, Pc, h1, h2, h3, h4, h5, h6, h7, h8⟩ := h
  exact ⟨C, Ps, Pc, h1.up, h2, h3, h4, h5, h6, by omega, by omega⟩
theorem IV0.scr (h : IV0 C Ps Pc o a b N xs t B0 B1 n Nc Nr M) : Scr b N xs M := h.2.2.2.2.1.1
theorem IV0.kt (h : IV0 C Ps Pc o a b N xs t B0 B1 n Nc Nr M) : mK M t = 1 := by
  obtain ⟨cn, cc, bc, q⟩ := h.1.tg
  exact q.2.1.1
theorem IV0.no (h : IV0 C Ps Pc o a b N xs t B0 B1 n Nc Nr M) : ¬ C o := fun u => (h.2.2.2.1 o u).2.2 rfl
theorem IV0.oz (h : IV0 C Ps Pc o a b N xs t B0 B1 n Nc Nr M) : o < mZ M := h.2.2.2.2.2.1.2.2.1
theorem IV0.oq (h : IV0 C Ps Pc o a b N xs t B0 B1 n Nc Nr M) (q : cQ0 c9 C n t Ps Pc M M1) : mK M1 o = 33 ∧ 0 < mN M1 o := by
  obtain ⟨C', Ps', Pc', q1, q2, q3⟩ := q
  have f := q2.2 o h.oz
  have g := h.2.2.2.2.2.1
  exact ⟨by rw [f.1]; exact g.1, by rw [f.2.1]; exact g.2.1⟩
theorem IV0.fin (h : IV0 C Ps Pc o a b N xs t B0 B1 n Nc Nr M) : mS M ≤ B0 + 1448000 + 5111808 + 6 * n ∧ 64 * mZ M ≤ B1 + 5300000 + 64 * 159744 + 64 * n := by
  have p1 := h.1.bd (fun x u => (h.2.2.2.1 x u).1)
  have p2 := h.2.1.bd
  have p3 := h.2.2.2.2.2.2
  omega
theorem i64_32 {r : Int} (h : i32 r) : i64 r := ⟨by have := h.1; omega, by have := h.2; omega⟩
theorem CiW.mono {y : mY} {hs : List (Nat × Nat × Nat × Nat)} {As : List mV} {Q Q' : Int → mM → Prop} (h : CiW G y hs d As M Q) (hq : ∀ x M', Q x M' → Q' x M') : CiW G y hs d As M Q' := by
  obtain ⟨r, M', h1, x, e, h2⟩ := h
  exact ⟨r, M', h1, x, e, hq x M' h2⟩
end LIV
