section
section
variable {G : mG} {d z q w T A B D N C n p O P K Ab Be Cm V F c s s' L L' cnt Bn a d0 V1 F1 nw k e s9 : Nat} {M0 M M' M1 M2 : mM} {ns ns' ns1 : Nat → Int} {sf ef sf' ef' : Nat → Nat} {H : Nat → Nat} {S R : Nat → Prop} {W pl nq E : Nat → Int} {Cf : Nat → Int × Int} {cv : Nat → vrs} {sm : Nat → Nat → Prop} {nms : List nm9} {ft : Int × Int}
theorem x_TR_worksOut {l2 : Int} {x y : Nat} (hF : FMx G) (hk : k < 3) (i2 : i32 l2) (h : TX M z q w T A B D N C n p O P K Ab Be Cm V F ns sf ef c cnt L) (h0 : mI M (q + 1) 3 = 0) (hr : mI M (q + 21) k = ((s : Nat) : Int)) (hp2 : mI M p 2 = ((s9 : Nat) : Int)) (hs9 : s9 ≤ n) (hlf : ∀ k, (W k = 1 ∨ W k = 2 ∨ W k = 12 ∨ W k = 13) → (W k = 1 → E k ≠ -1) → Lfo M p W E cv Cf k) (eo : Eo W 6 x y) (hfl : (fl W E pl 0 x y).1 = 0) (hc : Cd W Cf pl (mI M O) (mI M P) 0 0 0 x y s e) (he9 : e < s9) (oe : mI M O e = 0) (h22 : l2 ≠ 0 → mI M (q + 22) k = pl x) : Ci G y_TR_worksOut (d + 5) [vr q, vi k, vi l2] M (fun r M' => wuQ M z q w T A B D N C n p O P K Ab Be Cm V F ns sf ef c cnt L r M' ∧ wuV q l2 (vlq W cv pl 0 0 x y) (pl x) r M' ∧ (∀ nms, CT M (q + 1) p nms → CT M' (q + 1) p nms) ∧ wkK q p M M') := by
  have ap : Hid _ := h.1.apart
  replace h22 : Hid _ := h22
  have qp : Hid _ := h.1.2.2.2.2.2.1.2.1
  have ok := h.1.1.1
  have hK := h.1.1.2.2.2.2.2.2
  have hN : n ≤ 16384 := by have := h.1.1.2.2.2.1.2.2.1; have := h.1.1.2.2.2.1.1.2.2.2.2.2.2.1; omega
  obtain ⟨t0, t1, t2, t3, t4, t5⟩ := h.1.2.1
  obtain ⟨s1, s2, s3, s4⟩ := h.1.2.2.1
  have lse := hc.lt
  generalize hv : vlq W cv pl 0 0 x y = v
  refine k_TR_worksOut ok (i32s (by omega) (by omega)) i2 ?_
  rw [t2, t4, s3, Int.toNat_natCast, hr]
  refine ⟨t0, s1, by omega, h.1.2.2.2.1.1, (x_Ma_run (X := fun _ => False) hF ok h.1.2.2.2.1 (fun x hx => hx.elim) ⟨h.1.1.2.2.2.2.1, h.1.2.2.2.2.1, ap.1, hp2, by omega, by omega⟩ hlf eo hfl hc he9 oe).mono (fun x6 M5 k5 => ?_)⟩
  obtain ⟨k5, rx⟩ := k5
  rw [hv] at rx
  obtain ⟨-, k5⟩ := k5
  have i6 : i32 x6 := by rcases k5 with u | u <;> rw [u.1] <;> exact i32s (by omega) (by omega)
  obtain ⟨Ab', Be', Cm', h5, ⟨m1, m2, m3⟩, hb5, q0, q1, q21, q22, qp5, qO, qP, qA⟩ : ∃ Ab' Be' Cm', TX M5 z q w T A B D N C n p O P K Ab' Be' Cm' V F ns sf ef c cnt L ∧ maF M q Ab Be Cm M5 Ab' Be' Cm' ∧ (¬ (x6 = 0) → 1 ≤ mI M5 Be' 0 ∧ mI M5 Be' 0 < 1000000000) ∧ (mI M5 q = mI M q ∧ mI M5 (q + 1) = mI M (q + 1) ∧ mI M5 (q + 21) = mI M (q + 21) ∧ mI M5 (q + 22) = mI M (q + 22) ∧ mI M5 p = mI M p ∧ mI M5 O = mI M O ∧ mI M5 P = mI M P ∧ mI M5 A = mI M A) := by
    rcases k5 with ⟨e1, -, t, cc, hM⟩ | ⟨e1, hM⟩
    · obtain ⟨Ab', Be', Cm', v1, v2, v3, v4⟩ := h.ma hM
      exact ⟨Ab', Be', Cm', v1, v2, fun y => absurd e1 y, v4⟩
    · obtain ⟨Ab', Be', Cm', v1, v2, v3, v4⟩ := h.ma hM
      exact ⟨Ab', Be', Cm', v1, v2, fun _ => v3 0 (by omega), v4⟩
  clear k5
  replace hb5 : Hid _ := hb5
  have m1' : FA (fun x => x = q + 1 ∨ mcS (q + 11) Ab Be x) (fun x => x = q + 11) M M5 := m1.mono (fun _ _ y => Or.inr y) (fun _ _ y => y)
  have ct5 : ∀ nms, CT M (q + 1) p nms → CT M5 (q + 1) p nms := fun nms ct => by
    obtain ⟨s1', -, -, s4', -⟩ := h.1.mst m1
    exact ct.cg (by rw [q1]) (by rw [show q + 1 + 6 = q + 7 by first | rfl | omega]; exact (s1' 7 (by omega)).2.2.2) (by rw [show q + 1 + 7 = q + 8 by first | rfl | omega]; exact (s1' 8 (by omega)).2.2.2) (by rw [show q + 1 + 8 = q + 9 by first | rfl | omega]; exact (s1' 9 (by omega)).2.2.2) (by rw [show q + 1 + 9 = q + 10 by first | rfl | omega]; exact (s1' 10 (by omega)).2.2.2) (s4' 6 (by omega)).2.2.2 (s4' 7 (by omega)).2.2.2
  have kk5 : wkK q p M M5 := by
    obtain ⟨-, -, s3', s4', -⟩ := h.1.mst m1
    exact ⟨s3'.2.2.2, (s4' 6 (by omega)).2.2.2, (s4' 7 (by omega)).2.2.2⟩
  have F5 : FT M5 (q + 1) (0, 0) := ⟨by rw [q1]; exact h0, fun u => absurd rfl u⟩
  have nt : ∀ {y zz : Int}, y ≠ 0 → i32 y → i32 zz → Cv G y_RR_note (d + 4) [vr (q + 1), vi y, vi zz] M5 (fun M19 => mOk M19 ∧ wuQ M z q w T A B D N C n p O P K Ab Be Cm V F ns sf ef c cnt L 0 M19 ∧ FT M19 (q + 1) (y, zz) ∧ (∀ nms, CT M (q + 1) p nms → CT M19 (q + 1) p nms) ∧ wkK q p M M19) := fun {y zz} y0 iy iz => (x_tx_note iy y0 iz h5).mono (fun M19 kk => by
    obtain ⟨o19, h19, x19, -, u4, u5, u6⟩ := kk
    have ap5 : Hid _ := h5.1.apart
    refine ⟨o19, ⟨Ab', Be', Cm', h19, ?_, m2, ?_, ⟨by rw [u5 q (by omega)]; exact q0, fun i i3 i4 => by rw [u4 i i3 i4, q1], by rw [u5 _ (by omega)]; exact q21, by rw [u5 p (by first | (have h1 := qp; unfold Hid at h1; omega) | (unfold Hid at qp ap ap5; omega))]; exact qp5, by rw [u5 O (by first | (have h0 := qp; unfold Hid at h0; have h1 := ap.2.2.2.1; have h2 := ap.2.1; omega) | (unfold Hid at qp ap ap5; omega))]; exact qO, by rw [u5 P (by first | (have h0 := qp; unfold Hid at h0; have h1 := ap.2.2.2.2.1; have h2 := ap.2.2.1; omega) | (unfold Hid at qp ap ap5; omega))]; exact qP, by rw [(h5.1.words x19.1).1]; exact qA⟩, Or.inl rfl⟩, u6 (0, 0) F5, fun nms ct => (ct5 nms ct).tx x19.2, by rw [u5 _ (by omega)]; exact kk5.1, by rw [u5 _ (by have h0 := qp; unfold Hid at h0; omega)]; exact kk5.2.1, by rw [u5 _ (by have h0 := qp; unfold Hid at h0; omega)]; exact kk5.2.2⟩
    · have f19 : FA (fun x => x = q + 1) (fun _ => False) M5 M19 := ⟨⟨by rw [x19.1.2.2.2.2.1]; exact Nat.le_refl _, by rw [x19.1.2.2.2.2.2.1]; exact Nat.le_refl _⟩, fun x _ => ⟨by rw [x19.1.1], by rw [x19.1.2.1], by rw [x19.1.2.2.2.1], fun _ => by rw [x19.1.2.2.1], fun y => u5 x y⟩⟩
      exact m1'.trans2 f19 (fun x _ y => Or.inl y) (fun _ _ y => y.elim)
    · rw [x19.1.2.2.2.2.1, x19.1.2.2.2.2.2.1]
      exact m3)
  have k5m := h5.1.2.2.2.1
  obtain ⟨r0, r1, r2, r3, r4, r5⟩ := h5.1.2.1
  have rB : mR M5 (q + 11) 7 = Be' := k5m.2.1.2.2.2.1
  rw [r1, r2, r5, rB]
  have vx : Hid ((x6 = 0 ∧ v.1 ≠ 0 ∧ mI M5 (q + 11) 1 = v.1 ∧ mI M5 (q + 11) 2 = v.2.1) ∨ (x6 = 1 ∧ v.1 = 0 ∧ ptq M5 (q + 11) 0 v.2.1 v.2.2)) := rx
  clear rx
  have bB : Hid (v.1 = 0 → x6 = 1 → mI M5 Be' 0 = v.2.2) := fun u1 u2 => by
    rcases vx with w | w
    · exact absurd (w.1.symm.trans u2) (by decide)
    · rw [← rB]; exact w.2.2.2
  refine ⟨i6, h5.1.1.1, fun y => ⟨r0, k5m.1, h5.1.1.2.1.1, ?_⟩, fun y => ⟨fun _ => ⟨r0, k5m.1, k5m.2.2.1.2.2.2.1, ⟨by omega, ?_⟩⟩, fun y2 => ?_, fun y2 => ⟨r0, h5.1.2.2.1.2.1, ⟨by omega, by rw [h5.1.2.2.1.2.2.2]; omega⟩, h5.1.1.2.1.1, ?_⟩⟩⟩
  · obtain ⟨-, u1, u2, u3⟩ := Or.resolve_right vx (fun u => by rw [y] at u; exact absurd u.1 (by decide))
    have ew : wuf l2 v (pl x) = (v.1, v.2.1) := by
      unfold wuf wh9
      rw [if_pos u1, if_pos u1]
      split <;> rfl
    refine (nt (by rw [u2]; exact u1) (h5.1.1.1 _ _).1 (h5.1.1.1 _ _).1).mono (fun M19 t => ⟨t.1, t.2.1, Or.inl ⟨rfl, ?_, ?_⟩, t.2.2.2⟩)
    · rw [ew]; exact u1
    · rw [ew, ← u2, ← u3]; exact t.2.2.1
  · have := k5m.2.2.2.1.2.2.1
    have := k5m.2.2.2.2.2.2.2
    omega
  · have x1 : x6 = 1 := Or.elim vx (fun u => absurd u.1 y) (fun u => u.1)
    obtain ⟨-, u1, u2⟩ := Or.resolve_left vx (fun u => y u.1)
    have ew : wuf l2 v (pl x) = (0, 0) := by
      unfold wuf wh9
      by_cases l0 : l2 = 0
      · rw [if_pos l0, if_neg (fun z => z u1)]
      · have b1 := y2.resolve_left l0
        rw [bB u1 x1] at b1
        rw [if_neg l0, if_neg (fun z => z u1), if_neg (fun z => z b1)]
    exact ⟨⟨Ab', Be', Cm', h5, m1', m2, m3, ⟨q0, fun i _ _ => by rw [q1], q21, qp5, qO, qP, qA⟩, Or.inr ⟨rfl, by rw [q1]; exact h0, hb5 y⟩⟩, Or.inr ⟨rfl, by rw [ew], u1, F5, u2⟩, ct5, kk5⟩
  · have x1 : x6 = 1 := Or.elim vx (fun u => absurd u.1 y) (fun u => u.1)
    obtain ⟨-, u1, u2⟩ := Or.resolve_left vx (fun u => y u.1)
    have l0 : ¬ l2 = 0 := fun z => y2 (Or.inl z)
    have b1 : v.2.2 ≠ 1 := fun z => y2 (Or.inr (by rw [bB u1 x1]; exact z))
    have ew : wuf l2 v (pl x) = (8, pl x) := by
      unfold wuf wh9
      rw [if_neg l0, if_neg (fun z => z u1), if_pos b1]
    have e22 : mI M5 (q + 22) k = pl x := by rw [q22]; exact h22 l0
    rw [e22]
    refine (nt (by decide) (i32s (by omega) (by omega)) (by rw [← e22]; exact (h5.1.1.1 _ _).1)).mono (fun M19 t => ⟨t.1, t.2.1, Or.inl ⟨rfl, by rw [ew]; simp, by rw [ew]; exact t.2.2.1⟩, t.2.2.2⟩)
end
end
