/-! Class and reference give the same answer to compile. -/
section SME
variable {w : Nat → Int} {c : Nat → Int} {N n a Nw A B D f k : Nat} {Mx Mw : mM} {r1 r2 p : Int} {kk : Int × Int × Int × xR9}
theorem ac_last : ∀ (f k : Nat), Ac w N f [50] k → w (N - 1) = 0 := by
  intro f
  induction f using Nat.strongRecOn with
  | ind f ih =>
    intro k h
    rcases ac_item h with ⟨c0, c1⟩ | ⟨-, e, g, hg, -, hac⟩
    · rw [show N - 1 = k by omega]
      exact c0
    · exact ih g hg (e + 1) hac
theorem ag_of (sp : spx kwx c N Mx A B D n) (rw9 : rwx kwx c N a Nw Mw) (hN1 : 1 ≤ Nw) (tx : ∀ j, j < N → txc Mw a j = c j) (hn : n + 1 = Nw) (e0 : nt Mw (a + 5) (Nw - 1) = 0) (e7 : nt Mw (a + 7) (Nw - 1) = N) : AgW (wk Mw a) (cwq kwx c N n) (nt Mw (a + 7)) (pl0 c N n) (nuq Mw a) (nq0 c N) (smx Mw a) (sm0 c N) Nw := by
  have wd : ∀ j, j < Nw → wk Mw a j = cwq kwx c N n j := fun j hj => (wd_same sp rw9 hN1 j hj).symm
  have lt : ∀ j, j < Nw → wk Mw a j ≠ 0 → j + 1 < Nw := fun j hj h => by
    by_cases y : j + 1 < Nw
    · exact y
    · exfalso
      have e : j = Nw - 1 := by omega
      rw [e] at h
      exact h e0
  have pr : ∀ j, j + 1 < Nw → nt Mw (a + 7) j = ((pwq c N j : Nat) : Int) ∧ nt Mw (a + 9) j = ((weq c N (pwq c N j) : Nat) : Int) ∧ pwq c N j < weq c N (pwq c N j) ∧ weq c N (pwq c N j) ≤ N := fun j hj => by
    obtain ⟨y1, y2, y3, y4, y5⟩ := rw9.1 j hj
    have b := weq_b (c := c) y1
    exact ⟨y4, y5, b.1, b.2⟩
  refine ⟨fun j hj => ⟨wd j hj, ?_, fun h2 => ?_⟩, fun x v hx hv h1 h2 => ?_⟩
  · unfold pl0
    by_cases y : j < n
    · rw [if_pos y]
      exact (pr j (by omega)).1
    · rw [if_neg y, show j = Nw - 1 by omega]
      exact e7
  · obtain ⟨y1, y2, y3, y4⟩ := pr j (lt j hj (by rw [h2]; decide))
    unfold nuq nq0
    rw [y1, y2, Int.toNat_natCast, show (((weq c N (pwq c N j) : Nat) : Int) - ((pwq c N j : Nat) : Int)).toNat = weq c N (pwq c N j) - pwq c N j by omega]
    exact numq_cg tx _ (by omega)
  · obtain ⟨x1, x2, x3, x4⟩ := pr x (lt x hx (by rw [h1]; decide))
    obtain ⟨v1, v2, v3, v4⟩ := pr v (lt v hv (by rw [h2]; decide))
    unfold smx sm0
    rw [x1, x2, v1, v2, Int.toNat_natCast, Int.toNat_natCast]
    refine ⟨fun u => ⟨u.1.symm, fun i hi => ?_⟩, fun u => ⟨u.1.symm, fun i hi => ?_⟩⟩
    · have u1 := u.1
      have t1 := tx (pwq c N x + i) (by omega)
      have t2 := tx (pwq c N v + i) (by omega)
      rw [← t1, ← t2]
      exact u.2 i (by omega)
    · have u1 := u.1
      have t1 := tx (pwq c N x + i) (by omega)
      have t2 := tx (pwq c N v + i) (by omega)
      have g := u.2 i (by omega)
      rw [← t1, ← t2] at g
      exact g
theorem RI.z {i9 : tI9} {M : mM} (h : RI (z9 i9) M a) (c : Nat → Int) : RI (0, c, i9) M a := ⟨h.1, h.2.1, ⟨Tpl.nil h.2.2.1.1.1, h.2.2.1.2⟩, h.2.2.2⟩
theorem same_ans {p1 : Int} {k1 : Int × Int × Int × xR9} (h1 : clR c N r1 p1 k1) (h2 : cmR c N a r2 p kk) : r1 = r2 ∧ (r1 = 0 → k1 = kk) ∧ (r1 ≠ 0 → p1 = p) := by
  obtain ⟨Mx, A, B, D, n, sp, h1⟩ := h1
  obtain ⟨Mw, Nw, hN1, rw9, tx, h2⟩ := h2
  have wd := wd_same sp rw9 hN1
  rcases h2 with ⟨e2, q, hq, ep, rf⟩ | ⟨rc, ⟨f, hac⟩, sF, eF, h2⟩
  · have rf := rf (cwq kwx c N n) wd
    rcases h1 with ⟨e1, q9, rf9, ep1⟩ | ⟨⟨b, rc⟩, -⟩
    · refine ⟨by rw [e1, e2], fun u => by rw [e1] at u; exact absurd u (by decide), fun _ => ?_⟩
      have eq := rf9.same rf
      subst eq
      rw [ep1, ep]
      unfold pl0
      by_cases y : q9 + 1 < Nw
      · have := (rw9.1 q9 y).2.2.2.1
        rw [if_pos (by rcases wd_cnt sp rw9 hN1 with ⟨u, -⟩ | ⟨u, -⟩ <;> omega)]
        exact this.symm
      · have e9 : q9 = Nw - 1 := by omega
        rcases wd_cnt sp rw9 hN1 with ⟨u1, -, u3⟩ | ⟨u1, -, -, u3⟩
        · rw [if_neg (by omega), e9]
          exact u3.symm
        · rw [if_pos (by omega), e9]
          exact u3.symm
    · exact (rf.not rc).elim
  · have rc := rc (cwq kwx c N n) wd
    rcases h1 with ⟨-, q9, rf, -⟩ | ⟨-, s1, es1, e1, e1p, k1e⟩
    · exact (rf.not rc).elim
    · have l0 : nt Mw (a + 5) (Nw - 1) = 0 := ac_last f 0 hac
      have hn : n + 1 = Nw ∧ nt Mw (a + 7) (Nw - 1) = N := by
        rcases wd_cnt sp rw9 hN1 with ⟨u1, -, u3⟩ | ⟨-, u2, -⟩
        · exact ⟨u1, u3⟩
        · rw [l0] at u2
          exact absurd u2 (by decide)
      have ag := ag_of sp rw9 hN1 tx hn.1 l0 hn.2
      have e := its_cg ag f Nw 0 s09 (by omega) hac (fun e he => absurd he (by simp [s09]))
      rw [← eF] at e
      rw [hn.1] at es1 k1e
      have ss : s1 = sF := by
        rw [e]
        exact es1
      subst ss
      rcases h2 with ⟨u0, u, u'⟩ | ⟨u0, u, -, u1, ug⟩
      · exact ⟨by rw [e1, u], fun v => absurd (e1.symm.trans v) u0, fun v => by rw [e1p v, u']⟩
      · have xe := xpg_same ag hac ug
        refine ⟨by rw [e1, u, u0], fun v => ?_, fun v => absurd (e1.trans u0) v⟩
        rw [k1e v, u1]
        refine congrArg (fun z => (((s1.2.1.1 : Nat) : Int), ((s1.2.1.2.1 : Nat) : Int), ((s1.2.1.2.2.1 : Nat) : Int), z)) ?_
        rw [eF]
        exact xe.symm
end SME
