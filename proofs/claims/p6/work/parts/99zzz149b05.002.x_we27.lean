section
variable {G : mG} {d z g p O P K V F L cnt Ab Be C Ab0 Be0 C0 n N c cc u v k : Nat} {M0 M M' M1 : mM} {ns : Nat → Int} {sf ef : Nat → Nat} {F1 : Nat} {ns1 : Nat → Int} {sf1 ef1 : Nat → Nat} {W pl nq : Nat → Int} {sm : Nat → Nat → Prop} {nms : List nm9} {sgL : List Int} {brs : List br9}
theorem x_we27 (hF : FMx G) (cx : gcx M0 g p O P L V F Ab0 Be0 ns sf ef W pl nq sm N n nms) (hc : c < cnt) (hcc2 : cc ≤ 4096) (hcc1 : mI M1 g 12 = ((cc : Nat) : Int)) (huv : u ≤ v ∧ v ≤ u + 8 ∧ v ≤ 480) (hlen : brs.length = v - u) (hbr : ∀ (b : Nat) (x : br9), brs[b]? = some x → mI M0 (p + 13) (u + b) = x.1 ∧ ∃ s : Nat, mI M0 (p + 14) (u + b) = ((s : Nat) : Int) ∧ RuC M0 O P L W pl nq sm n ns ef nms x.2.1.1 x.2.1.2 s) : ∀ (t i : Nat) (M : mM) (Ab Be C : Nat), v - u ≤ i + t → i ≤ v - u → GX M0 z g p O P K V F1 ns1 sf1 ef1 L cnt Ab0 Be0 C0 M Ab Be C → wgF M1 g M → gst9 M g V F ns W pl nq sm N nms k (fun v => sgL.getD v 0) → chz M g i → chq9 (evq W pl nq sm N nms) sgL brs = ((chq9 (evq W pl nq sm N nms) sgL (brs.drop i)).1, lch9 M g i ++ (chq9 (evq W pl nq sm N nms) sgL (brs.drop i)).2) → h_Ga_weighChances_27 G (d + 4) g c u ((v - u : Nat) : Int) i M (fun r M' => weQ M0 z g p O P K V F1 ns1 sf1 ef1 L cnt Ab0 Be0 C0 M1 (v - u) cc r M' ∧ weY (chq9 (evq W pl nq sm N nms) sgL brs) (mI M0 (p + 10) c) g V F ns W pl nq sm N nms k sgL cc (v - u) r M') := by
  intro t
  have fin : ∀ {i : Nat} {M : mM} {Ab Be C : Nat}, i = v - u → GX M0 z g p O P K V F1 ns1 sf1 ef1 L cnt Ab0 Be0 C0 M Ab Be C → wgF M1 g M → gst9 M g V F ns W pl nq sm N nms k (fun v => sgL.getD v 0) → chz M g i → chq9 (evq W pl nq sm N nms) sgL brs = ((chq9 (evq W pl nq sm N nms) sgL (brs.drop i)).1, lch9 M g i ++ (chq9 (evq W pl nq sm N nms) sgL (brs.drop i)).2) → h_Ga_weighChances_150 G (d + 4) g c ((v - u : Nat) : Int) 1 0 M (fun r M' => weQ M0 z g p O P K V F1 ns1 sf1 ef1 L cnt Ab0 Be0 C0 M1 (v - u) cc r M' ∧ weY (chq9 (evq W pl nq sm N nms) sgL brs) (mI M0 (p + 10) c) g V F ns W pl nq sm N nms k sgL cc (v - u) r M') := fun {i M Ab Be C} en hx hw st hch hcq => by
    rw [en] at hch hcq
    rw [List.drop_eq_nil_of_le (by omega)] at hcq
    exact we_end (d := d + 3) hx hw hc (by omega) hch (by rw [hw.1 12 (by decide)]; exact hcc1) hcc2 hcc1 st (by rw [hcq]; show ((0, 0), lch9 M g (v - u) ++ []) = _; rw [List.append_nil])
  induction t with
  | zero =>
    intro i M Ab Be C hi hi2 hx hw st hch hcq
    have c60 := hx.2.2.2.1.2.2.2.2.1.2
    exact k_Ga_weighChances_27 hx.1 (i32s (by omega) (by omega)) (i32s (by omega) (by omega)) (i32s (by omega) (by omega)) (i32s (by omega) (by omega)) ⟨fun _ => fin (by omega) hx hw st hch hcq, fun y => absurd y (by omega)⟩
  | succ t ih =>
    intro i M Ab Be C hi hi2 hx hw st hch hcq
    have c60 := hx.2.2.2.1.2.2.2.2.1.2
    refine k_Ga_weighChances_27 hx.1 (i32s (by omega) (by omega)) (i32s (by omega) (by omega)) (i32s (by omega) (by omega)) (i32s (by omega) (by omega)) ⟨fun y => fin (by omega) hx hw st hch hcq, fun y => ?_⟩
    have inn : i < v - u := by omega
    obtain ⟨h1, h2, h3, h4, h5, -⟩ := id hx
    obtain ⟨g0, ⟨-, -, -, -, -, -, -, -, -, g15, -, g17, g18⟩, -, -⟩ := id h2
    obtain ⟨x, hxb⟩ : ∃ x, brs[i]? = some x := ⟨brs[i], List.getElem?_eq_getElem (by omega)⟩
    have hdr : brs.drop i = x :: brs.drop (i + 1) := by
      rw [List.drop_eq_getElem_cons (by omega)]
      rw [List.getElem?_eq_getElem (by omega)] at hxb
      rw [Option.some.inj hxb]
    obtain ⟨hpl, s1, b1, ru⟩ := hbr i x hxb
    obtain ⟨r9, l9, ec9, e9, u1, u2, u3, u4, -⟩ := id ru
    have gd : vgd (kdq W (E9 sm r9 0) 0 x.2.1.1 x.2.1.2) (evq W pl nq sm N nms sgL x.2.1.1 x.2.1.2) := vls_ok cx.2.1 cx.2.2.1 st.2.2.1 u1 u2 u3 u4
    rw [hdr] at hcq
    have p18 := h4.1.2.2.2.2.2.2.1.2.2.2.2.2.2.2.2.2.2.2.1
    have kp18 := h4.1.2.2.2.2.2.2.2.1.2.2.2.2.2.2.2.2.2.2.2.1
    have np18 := h4.1.2.2.2.2.2.2.2.2.2.2.2.2.2.2.2.2.2.2.2.1
    rw [h5.1, p18, np18, g15, show Int.toNat ((u : Int) + (i : Int)) = u + i by omega, gx_p hx 14 (by omega), b1]
    refine ⟨g0, h4.1.1, kp18, by omega, h3.1, (x_Ga_run hF hx cx st ru).mono (fun x14 M13 kk => ?_)⟩
    obtain ⟨⟨i14, o13, hx14, Ab', Be', C', hx13, f13, s13, -⟩, rx, st13⟩ := kk
    have rx : rnx (g + 10) (evq W pl nq sm N nms sgL x.2.1.1 x.2.1.2) x14 M13 := rx
    have w13 := hw.trans (ga_wg hx f13 s13)
    obtain ⟨ce1, ce2⟩ := ga_ce hx f13
    obtain ⟨-, k2, k3, k4, k5, -⟩ := id hx13
    obtain ⟨j0, ⟨-, -, -, -, -, -, -, -, -, j15, -, j17, j18⟩, ⟨-, -, -, -, -, -, -, -, -, -, jk21, jk22⟩, ⟨-, -, -, -, -, -, -, -, -, -, jn21, jn22⟩⟩ := id k2
    have mA := k3.2.1.2.2.1
    have mB := k3.2.1.2.2.2.1
    have kA := k3.2.2.1.2.2.1
    have kB := k3.2.2.1.2.2.2.1
    have nA := k3.2.2.2.1.2.1
    have nB := k3.2.2.2.1.2.2.1
    have c64 := k3.2.2.2.2.2.2.2.1
    obtain ⟨sA, sB, sne, sz⟩ := k3.2.2.2.2.2.1
    have h61 := hx13.2.2.2.2.2.1.1
    refine ⟨i14, o13, fun y14 => ⟨j0, (x_Ga_machineFault o13 j0 j15 k3.1).mono (fun r M' q => ?_)⟩, fun y14 => ?_⟩
    · obtain ⟨-, rx1, rx2, rx3⟩ := rx.resolve_right (fun u => by have := u.1; omega)
      obtain ⟨q1, q2, q3, q4⟩ := q
      refine ⟨q1, q3.1, pl_we hx13 w13 q3 q1 (by rw [q2, rx2]; exact rx1), Or.inl ?_⟩
      rw [hcq, chq_f rx1]
      exact ⟨rx1, by rw [q2, rx2], by rw [q4, rx3]⟩
    · obtain ⟨-, rx1, rx2, rx3⟩ := rx.resolve_left (fun u => y14 u.1)
      obtain ⟨-, gd1, gd2, gd3, -⟩ := gd.resolve_right (fun u => by omega)
      rw [mA] at rx2
      rw [mB] at rx3
      have p17 := k4.1.2.2.2.2.2.2.1.2.2.2.2.2.2.2.2.2.2.1
      have kp17 := k4.1.2.2.2.2.2.2.2.1.2.2.2.2.2.2.2.2.2.2.1
      have np17 := k4.1.2.2.2.2.2.2.2.2.2.2.2.2.2.2.2.2.2.2.1
      have B21 : Be' ≠ g + 21 ∧ Be' ≠ g + 22 := by
        clear hx hx13 k2 k3 k4 h2 h3 h4 ih hch f13 w13 hw ce1 ce2 hcq hbr gd1 gd2 gd3 rx1 rx2 rx3 rx gd fin ru cx st st13 hxb hdr u1 u2 u3 u4
        omega
      rw [j15, mA, j17, nA, jn21, Int.toNat_natCast]
      refine ⟨j0, k3.1, kA, ⟨by omega, by omega⟩, jk21, by omega, fun M28 e28 => ?_⟩
      have f28 : FI (fun x => x = g + 21) M13 M28 := by rw [e28]; exact FI.ui rfl
      have iB : mI M28 Be' 0 = mI M13 Be' 0 := by rw [f28.2.2.2.2.2.2 Be' B21.1]
      rw [f28.1, f28.2.1, f28.2.2.1, j15, mB, j18, nB, jn22, iB]
      refine ⟨k3.1, kB, ⟨by omega, by omega⟩, jk22, by omega, fun M35 e35 => ?_⟩
      have f35 : FI (fun x => x = g + 22) M28 M35 := by rw [e35]; exact FI.ui rfl
      have ff : FI (fun x => x = g + 21 ∨ x = g + 22) M13 M35 := (f28.mono (fun _ y => Or.inl y)).trans (f35.mono (fun _ y => Or.inr y))
      have o35 : mOk M35 := by rw [e35]; exact mOk_UI (by rw [e28]; exact mOk_UI o13 (o13 _ _).1) (o13 _ _).1
      have nb : ∀ x, x ≠ g + 21 → x ≠ g + 22 → mI M35 x = mI M13 x := fun x a b => ff.2.2.2.2.2.2 x (fun y => y.elim a b)
      have e21 : ∀ j, mI M35 (g + 21) j = if j = i then mI M13 Ab' 0 else mI M13 (g + 21) j := fun j => by
        rw [f35.2.2.2.2.2.2 _ (show ¬ g + 21 = g + 22 by omega), mI_ui _ j e28]
        by_cases yj : j = i
        · rw [if_pos ⟨rfl, yj⟩, if_pos yj]
        · rw [if_neg (fun t => yj t.2), if_neg yj]
      have e22 : ∀ j, mI M35 (g + 22) j = if j = i then mI M13 Be' 0 else mI M13 (g + 22) j := fun j => by
        rw [mI_ui _ j e35]
        by_cases yj : j = i
        · rw [if_pos ⟨rfl, yj⟩, if_pos yj]
        · rw [if_neg (fun t => yj t.2), if_neg yj, f28.2.2.2.2.2.2 _ (show ¬ g + 22 = g + 21 by omega)]
      have x35 := hx13.fi o35 (ff.mono (fun x y => Or.inr (Or.inr (by have y' : x = g + 21 ∨ x = g + 22 := y; omega))))
      have w35 : wgF M1 g M35 := w13.trans ⟨fun j _ => by rw [nb g (by omega) (by omega)], fun j j1 j9 _ => nb _ (by omega) (by omega), nb _ (by omega) (by omega), fun j _ => by rw [nb _ (by omega) (by omega)], by rw [nb _ (by omega) (by omega)]⟩
      have st35 : gst9 M35 g V F ns W pl nq sm N nms k (fun v => sgL.getD v 0) := st13.cg (fun i _ => by rw [nb _ (by omega) (by omega)]) (fun v _ => by rw [nb _ (by omega) (by omega)]) (nb _ (by omega) (by omega)) (nb _ (by omega) (by omega)) (nb _ (by omega) (by omega))
      have v21 : mI M35 (g + 21) i = (evq W pl nq sm N nms sgL x.2.1.1 x.2.1.2).2.1 := by rw [e21, if_pos rfl]; exact rx2
      have v22 : mI M35 (g + 22) i = (evq W pl nq sm N nms sgL x.2.1.1 x.2.1.2).2.2 := by rw [e22, if_pos rfl]; exact rx3
      rw [ff.1, ff.2.1, ff.2.2.1, j17, j18, jn21, jn22, k5.1, p17, np17]
      refine ⟨jk21, by omega, fun _ => ⟨by omega, jk22, by omega⟩, fun y => ⟨k4.1.1, kp17, by omega, ?_⟩, fun y => ?_⟩
      · refine (x_Ga_fault ⟨by decide, by decide⟩ (o35 _ _).1 o35 (by rw [ff.1]; exact j0)).mono (fun r M' q => ?_)
        rw [q.1]
        refine ⟨⟨by decide, by decide⟩, q.2.1.1, pl_we x35 w35 q.2.1 ⟨by decide, by decide⟩ (by decide), Or.inl ?_⟩
        rw [v21, v22] at y
        rw [hcq, chq_r rx1 (y.imp id (fun u => by omega))]
        refine ⟨by show (11 : Int) ≠ 0; decide, rfl, ?_⟩
        rw [q.2.2, gx_p x35 13 (by omega)]
        exact hpl
      · have y := y
        have yy : 0 ≤ mI M35 (g + 21) i ∧ mI M35 (g + 21) i ≤ mI M35 (g + 22) i := by
          by_cases y1 : mI M35 (g + 21) i < 0
          · exact absurd (Or.inl y1) y
          · by_cases y2 : mI M35 (g + 21) i ≤ mI M35 (g + 22) i
            · exact ⟨by omega, y2⟩
            · exact absurd (Or.inr y2) y
        have le : lch9 M35 g (i + 1) = lch9 M g i ++ [(evq W pl nq sm N nms sgL x.2.1.1 x.2.1.2).2] := by
          show lch9 M35 g i ++ [(mI M35 (g + 21) i, mI M35 (g + 22) i)] = _
          rw [v21, v22, lch_cg (M := M) (M' := M35) i (fun b hb => by rw [e21, e22, if_neg (by omega), if_neg (by omega), ce1 21 (by omega), ce1 22 (by omega)]; exact ⟨rfl, rfl⟩)]
        rw [v21, v22] at yy
        rw [show ((i : Int) + 1) = ((i + 1 : Nat) : Int) by omega]
        refine ih (i + 1) M35 Ab' Be' C' (by omega) (by omega) x35 w35 st35 (fun b hb => ?_) ?_
        · by_cases yb : b = i
          · subst yb
            rw [v21, v22]
            exact ⟨yy.1, yy.2, gd2.1, by omega⟩
          · rw [e21, e22, if_neg yb, if_neg yb, ce1 21 (by omega), ce1 22 (by omega)]
            exact hch b (by omega)
        · rw [hcq, chq_s rx1 (fun u => by omega), le]
          show (_, _ ++ _ :: _) = (_, _)
          rw [List.append_assoc]
          rfl
end
