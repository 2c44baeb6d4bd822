section
section
variable {G : mG} {d z q w T A B D N C n p O P K Ab Be Cm V F c s L cnt a s9 S0 k0 Nn : Nat} {M0 M M' M1 M2 : mM} {ns : Nat → Int} {sf ef : Nat → Nat} {W pl nq : Nat → Int} {sm : Nat → Nat → Prop} {nms : List nm9} {ft fS : Int × Int}
/-- the sets of a branch, from the word k0 on -/
def rsX (W pl : Nat → Int) (sm : Nat → Nat → Prop) (Nn : Nat) (Mc : mM) (q p c k0 : Nat) (nms : List nm9) (fS : Int × Int) (a : Nat) : Prop := (W k0 = 10 ∧ fS = (0, 0) ∧ a = k0 + 1) ∨ (W k0 ≠ 10 ∧ seP W pl sm Nn Mc q p c k0 nms fS a)
theorem rsV.mono {X Y : Int × Int → Nat → Prop} {Y9 : mM → Prop} {x : Int} (h : rsV W q ft X Y9 x M) (hX : ∀ f a, X f a → Y f a) : rsV W q ft Y Y9 x M := by
  obtain ⟨a, h1, h2⟩ := h
  exact ⟨a, h1, h2.imp (fun u => u) (fun ⟨u1, u2, f, u3, u4, u5⟩ => ⟨u1, u2, f, u3, hX f a u4, u5⟩)⟩
theorem x_TR_readSets (hs9 : s9 = S0) (hNn : n ≤ Nn) (tn0 : TN M0 (q + 1) A n V F ns c) (h : rsI M0 z q w T A B D N C n p O P K Ab Be Cm V F ns sf ef c cnt L S0 a s9 M) (wt : WTq M T A B D n W pl nq sm) (hFT : FT M (q + 1) ft) (hR : Rc W [50] 0 [58, 57, 34, 50] a) : Ci G y_TR_readSets (d + 6) [vr q] M (fun x M' => rsQ9 M0 z q w T A B D N C n p O P K Ab Be Cm V F ns sf ef c cnt L S0 x M' ∧ rsV W q ft (rsX W pl sm Nn M0 q p c a nms) (seE W pl nq sm Nn n V M0 q p O P c a S0 nms) x M') := by
  have h1 := h.1
  have a1 := h.2.2.1
  have a2 := h.2.2.2.1
  obtain ⟨t0, t1, t2, t3, t4, t5⟩ := h1.1.2.1
  have r0 := h1.1.1.2.2.1.1
  have w1 := h1.1.1.2.2.2.1.1.1
  have w2 := h1.1.1.2.2.2.1.2.1
  refine k_TR_readSets h1.1.1.1 ?_
  rw [t1]
  refine ⟨t0, h1.1.1.2.1.1, (x_tx_accept (x := 11) (i32s (by omega) (by omega)) (by omega) h1 a1 a2).mono (fun x4 M3 k => ?_)⟩
  obtain ⟨i4, o3, -, h3, x3, k3, r3, b3, m3⟩ := k
  refine ⟨i4, o3, fun v7 e7 => ?_⟩
  have i7 : i32 v7 := by rw [e7]; split <;> exact i32s (by omega) (by omega)
  rcases k3 with ⟨ex, e10, a3, an3⟩ | ⟨ex, e3⟩
  · obtain ⟨⟨np0, np1, -, -⟩, -, -⟩ := h1.1.ne
    have w10 : W a = 10 := (wt.is a2 (by decide) (by decide)).mp e10
    have I3 := h.acc h3 x3 a3 an3 r3 b3
    rw [if_neg (by omega)] at e7
    obtain ⟨t0', t1', t2', t3', -⟩ := h3.1.2.1
    refine k_TR_readSets_22 o3 i7 (i32s (by omega) (by omega)) (i32s (by omega) (by omega)) ?_
    rw [t1', h3.1.1.2.2.1.1, h3.1.1.2.2.2.1.2.1, t3']
    have F3 : FT M3 (q + 1) (fst9 ft (0, 0)) := (hFT.same (r3 3 (by decide)) (r3 4 (by decide))).none
    exact ⟨t0', h3.1.1.2.1.1, h3.1.1.2.2.2.1.1.1, fun _ => ⟨h3.1.1.2.2.2.2.1.1, x_rs_end (X := rsX W pl sm Nn M0 q p c a nms) I3 F3 (hR.trans (rc58 w10)) (Or.inl ⟨w10, rfl, rfl⟩) (fun _ _ _ => ⟨s9, by rw [b3 p np1]; exact h.2.2.2.2.1, by unfold sll; rw [if_pos w10]; exact hs9.symm, fun q' hq => by unfold sll at hq; rw [if_pos w10] at hq; exact absurd hq (by simp)⟩)⟩, fun y => absurd (Or.inr e7) y⟩
  · have w10 : W a ≠ 10 := fun u => m3 ex ((wt.is a2 (by decide) (by decide)).mpr u)
    rw [if_pos ex] at e7
    rw [e3]
    have F0 : FT M (q + 1) (fst9 ft (0, 0)) := hFT.none
    have key := x_rs22 (G := G) (d := d) (k0 := a) (nms := nms) (ft := ft) w10 hNn tn0 (n + 1) 0 M v7 0 a s9 (by omega) (by omega) i7 (i32s (by omega) (by omega)) h ⟨wt, (0, 0), F0, Or.inl ⟨by rw [e7]; decide, Nat.zero_le _, hR.trans (rc58n w10), fun ct hl => ⟨fun u => absurd rfl u, fun _ => ⟨0, [], rfl, by decide, snq.nil, rfl⟩⟩, ⟨Nat.le_refl _, fun j j1 j2 => absurd j2 (by omega)⟩, fun _ _ _ => ⟨[], s9, h.2.2.2.2.1, rfl, hs9.symm, fun q' hq => absurd hq (by simp)⟩⟩⟩
    exact mWm.mono key (fun r M' u => by
      obtain ⟨y, u1, u2, u3⟩ := u
      exact ⟨y, u1, u2, u3.mono (fun f b hb => Or.inr ⟨w10, hb⟩)⟩)
end
end
