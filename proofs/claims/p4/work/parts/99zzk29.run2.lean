/-! The class's machine: run, the loop. -/
section MAF
variable {G : mG} {d z m U Ab Be C Ab0 Be0 C0 t s c p O P K L V F E F0 s0 e0 h0 : Nat} {M0 M M' M1 M2 : mM} {S R X : Nat → Prop} {ns : Nat → Int} {sf ef : Nat → Nat} {H : Nat → Nat}
theorem stO.all {pc : Nat} {o x : Int} (h : stO V F ns H pc o x) : o ≠ 0 ∧ (o = 3 → H (pc + 1) = H pc + 1) ∧ ((o = 4 ∨ o = 7) → 0 ≤ x ∧ x < F ∧ ns x.toNat = o ∧ H (pc + 1) = H pc + 1) ∧ (o = 5 → 0 ≤ x ∧ x < V ∧ H (pc + 1) = H pc + 1) ∧ ((o = 30 ∨ o = 31 ∨ o = 33) → H (pc + 1) + 1 = H pc) ∧ (o = 42 → 1 ≤ H pc) ∧ ((o = 40 ∨ o = 41) → 1 ≤ H pc ∧ H (pc + 1) = H pc) ∧ ((o = 15 ∨ o = 16 ∨ (19 ≤ o ∧ o ≤ 29)) → 2 ≤ H pc ∧ H (pc + 1) + 1 = H pc) ∧ (o = 43 → 0 ≤ x ∧ x ≤ 1000000 ∧ x % 16 < V ∧ H (pc + 1) + 1 = H pc) ∧ ((o = 3 ∨ o = 4 ∨ o = 5 ∨ o = 7 ∨ o = 30 ∨ o = 31 ∨ o = 33 ∨ o = 42) ∨ (o = 40 ∨ o = 41) ∨ (o = 15 ∨ o = 16 ∨ (19 ≤ o ∧ o ≤ 29)) ∨ o = 43) := by
  unfold stO at h
  rcases h with q | q | q | q | q | q | q | q
  all_goals refine ⟨by omega, by omega, by omega, by omega, by omega, by omega, by omega, by omega, by omega, by omega⟩
theorem s_ma14 (hF : FMs G) (hp : PK M0 z p O P K) (hm0 : mR M0 m 0 = p) (ha : Mpr M0 z m p O P Ab0 Be0) (hL : mI M0 p 2 = L) (hLK : L ≤ K) (hLn : L ≤ 16384) (hE : E < L) (fo : FO M0 p O P V ns sf ef L F0) (hX : ∀ x, x < F0 → ns x = 7 → X x) (hF0 : F0 ≤ 60) (hV : V ≤ 12) : ∀ (n i : Nat) (M : mM) (c T F s e : Nat) (H : Nat → Nat) (h t pc : Nat), 1000000 ≤ i + n → i ≤ 1000000 → MS M0 z m U Ab0 Be0 C0 M t c → MT M m X → Cs M0 m O P V ns sf ef E F0 s0 e0 h0 M c T F s e H h → Cod M0 O P V F ns s e H h → (∀ y, y < F → ns y = 7 → ef y < s) → T + e ≤ E → F + c ≤ F0 → s ≤ pc → pc ≤ e → t = T + H pc → h_Ma_run_14 G (d + 3) m pc i M (rnQ M0 z m U Ab0 Be0 C0 X h0) := by
  intro n
  induction n with
  | zero =>
    intro i M c T F s e H h t pc hn hi hM hT hcs hcd hy hTe hFc hs he ht
    obtain ⟨ok, k0, h8, -⟩ := hM.pile
    obtain ⟨hp1, hr0, -, -, -⟩ := hM.prog hp hm0 ha
    refine k_Ma_run_14 ok (i32s (by omega) (by omega)) ⟨by omega, by omega⟩ ⟨fun y => absurd y (by omega), fun _ => ⟨k0, (s_Ma_stop (i32s (by omega) (by omega)) (i32s (by omega) (by omega)) hM).mono (fun r M' q => ?_)⟩, fun y => absurd (Or.inl (by omega)) y⟩
    obtain ⟨e1, q1, q2, q3⟩ := q
    rw [e1]
    exact ⟨i32s (by omega) (by omega), q1.pile.1, Or.inl rfl, hT.mtb q2 (by rw [q1.nine, hM.nine]), Or.inl ⟨rfl, by rw [q3]; decide, _, _, q1⟩⟩
  | succ n ih =>
    intro i M c T F s e H h t pc hn hi hM hT hcs hcd hy hTe hFc hs he ht
    obtain ⟨ok, k0, h8, kA, kB, tA, tB, bA, bB, hb, ⟨mA, mB⟩, ne⟩ := hM.pile
    obtain ⟨hp1, hr0, iO, iP, iT⟩ := hM.prog hp hm0 ha
    obtain ⟨cO, c1, c2, c3, c4, c5⟩ := hcd
    obtain ⟨pk, ⟨pr0, pr1⟩, ⟨kO, kP, nO, nP⟩, -, -, -, ⟨⟨-, -, -, p8, p9, -⟩, ⟨-, -, -, pk8, pk9, -⟩, ⟨-, -, -, pn8, pn9, -⟩⟩⟩ := id hp1
    have tb : t ≤ 16384 := by
      by_cases ye : pc = e
      · rw [ye] at ht; omega
      · have := (cO pc hs (by omega)).2.2
        omega
    have l2 : mI M p 2 = L := by rw [show p = p + 0 by omega, iT 0 (by omega)]; exact hL
    have stp : Ci G y_Ma_stop (d + 3) [vr m, vi 6, vi 0] M (fun r M' => i32 r ∧ mOk M' ∧ (r = 0 ∨ r = 1) ∧ rnQ M0 z m U Ab0 Be0 C0 X h0 r M') := (s_Ma_stop (i32s (by omega) (by omega)) (i32s (by omega) (by omega)) hM).mono (fun r M' q => by
      obtain ⟨e1, q1, q2, q3⟩ := q
      rw [e1]
      exact ⟨i32s (by omega) (by omega), q1.pile.1, Or.inl rfl, hT.mtb q2 (by rw [q1.nine, hM.nine]), Or.inl ⟨rfl, by rw [q3]; decide, _, _, q1⟩⟩)
    refine k_Ma_run_14 ok (i32s (by omega) (by omega)) ⟨by omega, by omega⟩ ⟨fun _ _ => ⟨k0, by rw [hr0]; exact pk⟩, fun _ => ⟨k0, stp⟩, fun y => ?_⟩
    have i6 : i < 1000000 := by
      by_cases u : (1000000 : Int) ≤ i
      · exact absurd (Or.inl u) y
      · omega
    clear y stp
    have go : ∀ {M1 : mM} {t1 pc1 : Nat} {z1 : Int}, z1 = pc1 → MS M0 z m U Ab0 Be0 C0 M1 t1 c → mtb m M M1 → s ≤ pc1 → pc1 ≤ e → t1 = T + H pc1 → h_Ma_run_14 G (d + 3) m z1 ((i : Int) + 1) M1 (rnQ M0 z m U Ab0 Be0 C0 X h0) := fun {M1 t1 pc1 z1} ez hM1 hb1 g1 g2 g3 => by
      rw [ez, show ((i : Int) + 1) = ((i + 1 : Nat) : Int) by omega]
      exact ih (i + 1) M1 c T F s e H h t1 pc1 (by omega) (by omega) hM1 (hT.mtb hb1 (by rw [hM1.nine, hM.nine])) (hcs.cg (fun j _ => ⟨by rw [hb1 (m + 8) (by omega) (by omega)], by rw [hb1 (m + 9) (by omega) (by omega)]⟩)) ⟨cO, c1, c2, c3, c4, c5⟩ hy hTe hFc g1 g2 g3
    rw [hr0, pr0, pr1, p8, p9, pn8, pn9, nO, nP, iO, iP, Int.toNat_natCast]
    refine ⟨k0, pk, kO, by omega, kP, by omega, fun o0 => ?_, fun o0 => ?_⟩
    · -- the end of a piece
      have ye : pc = e := by
        by_cases u : pc = e
        · exact u
        · exact absurd o0 (cO pc hs (by omega)).1.all.1
      subst ye
      obtain ⟨_, _, _, -, -, -, -, -, -, h15, -⟩ := id hM
      rw [h15]
      refine ⟨fun y => ?_, fun y => ?_⟩
      · have y0 : c = 0 := by omega
        subst y0
        obtain ⟨q1, -, -, -, q5⟩ := hcs
        rw [ht, q1, c2, q5, Nat.zero_add] at hM
        exact ⟨hT, Or.inr ⟨rfl, hM⟩⟩
      · obtain ⟨c', ec⟩ : ∃ c', c = c' + 1 := ⟨c - 1, by omega⟩
        subst ec
        obtain ⟨T1, F1, s1, e1, H1, h1, pc1, q1, q2, q3, q4, q5, q6, q7, q8, ⟨q9a, q9b, q9c⟩, q10, q11, q12, q13⟩ := hcs
        have et : t = T + 1 := by omega
        subst et
        refine (s_Ma_comeBack hM q6 (by omega) (by omega)).mono (fun r M' w => ?_)
        obtain ⟨w1, w2, w3, w4, w5, w6, w7⟩ := w
        have ok' := w2.pile.1
        rw [q10] at w1
        rw [w1, show ((i : Int) + 1) = ((i + 1 : Nat) : Int) by omega]
        refine ⟨i32s (by omega) (by omega), ok', ih (i + 1) M' c' T1 F1 s1 e1 H1 h1 (T + 1) pc1 (by omega) (by omega) w2 (fun x hx => ?_) (q1.cg (fun j _ => ⟨by rw [w3], by rw [w4]⟩)) q2 q3 q4 q5 (by omega) q12 q13⟩
        rw [w5, w2.nine, ← hM.nine]
        by_cases yx : x = F
        · rw [if_pos yx, yx]
          exact ⟨Int.le_refl _, fun _ => w7⟩
        · rw [if_neg yx, w6 x yx]
          exact hT x hx
    · have ye : pc < e := by
        by_cases u : pc = e
        · exact absurd (by rw [u]; exact c4) o0
        · omega
      obtain ⟨st, jmp, hbb⟩ := cO pc hs ye
      obtain ⟨-, f3, f4, f5, f30, f42, f40, f15, f43, fall⟩ := st.all
      have jp : jm (mI M0 O pc) → ∃ tt : Nat, mI M0 P pc = tt ∧ pc < tt ∧ tt ≤ e ∧ (mI M0 O pc = 33 → H tt + 1 = H pc) ∧ (mI M0 O pc ≠ 33 → H tt = H pc) := fun q => (jmp q).elim (fun u => u.elim) (fun u => u)
      clear jmp st
      refine ⟨fun o3 => ?_, fun o3 => ⟨fun o4 => ?_, fun o4 => ⟨fun o5 => ?_, fun o5 => ⟨fun o7 => ?_, fun o7 => ⟨fun o30 => ⟨kA, by omega, fun v61 _ v67 _ v73 _ v79 e79 v83 e83 => ?_⟩, fun o30 => ⟨fun o33 => ?_, fun o33 => ⟨fun o42 => ?_, fun o42 => ?_⟩⟩⟩⟩⟩⟩⟩
      · have i0 : i32 (mI M0 P pc) := by rw [← iP]; exact (ok _ _).1
        refine (s_Ma_push hM tb i0 ⟨by omega, by omega⟩).mono (fun M' q => ⟨q.1.pile.1, go (pc1 := pc + 1) (by omega) q.1 q.2 (by omega) (by omega) ?_⟩)
        have := f3 o3
        omega
      · obtain ⟨x0, x1, x2, x3⟩ := f4 (Or.inl o4)
        have xx : (mI M0 P pc).toNat < F0 := by omega
        have vb := (fo _ xx).1 (by rw [x2]; exact o4)
        have e7 := iT 7 (by omega)
        refine ⟨pk8, by omega, pk9, by omega, (s_Ma_push hM tb (ok _ _).1 (by rw [e7]; exact vb)).mono (fun M' q => ⟨q.1.pile.1, go (pc1 := pc + 1) (by omega) q.1 q.2 (by omega) (by omega) (by omega)⟩)⟩
      · obtain ⟨x0, x1, x2⟩ := f5 o5
        obtain ⟨_, _, _, -, hk, -⟩ := id hM
        have r3 := hk.2.1.1
        have kU := hk.2.2.1.1
        have bs0 := hk.2.2.2.2.1
        rw [r3]
        refine ⟨kU, by omega, (s_Ma_push hM tb (ok _ _).1 ⟨by omega, by omega⟩).mono (fun M' q => ⟨q.1.pile.1, go (pc1 := pc + 1) (by omega) q.1 q.2 (by omega) (by omega) (by omega)⟩)⟩
      · obtain ⟨x0, x1, x2, x3⟩ := f4 (Or.inr o7)
        obtain ⟨x, ex⟩ : ∃ x : Nat, mI M0 P pc = x := ⟨(mI M0 P pc).toNat, by omega⟩
        rw [ex, Int.toNat_natCast, o7] at x2
        rw [ex]
        have xF : x < F := by omega
        obtain ⟨-, fx⟩ := fo x (by omega)
        obtain ⟨g1, ⟨Hx, gx⟩, g3, g4⟩ := fx x2
        have hyx := hy x xF x2
        have gs : sf x ≤ ef x := gx.2.2.2.2.2
        refine (s_Ma_meet (p := p) hM hp1 hr0 (by omega) (by omega) tb (i32s (by omega) (by omega)) (hT x (hX x (by omega) x2)).2 ha.1).mono (fun r M' q => ?_)
        rcases q with ⟨w1, w2, w3⟩ | ⟨w1, w2, w3, w4, w5, w6⟩
        · rw [w1]
          exact ⟨i32s (by omega) (by omega), w2.pile.1, go (pc1 := pc + 1) (by omega) w2 w3 (by omega) (by omega) (by omega)⟩
        · rw [iT 8 (by omega), g1] at w1
          rw [w1, show ((i : Int) + 1) = ((i + 1 : Nat) : Int) by omega]
          refine ⟨i32s (by omega) (by omega), w2.pile.1, ih (i + 1) M' (c + 1) t x (sf x) (ef x) Hx 1 t (sf x) (by omega) (by omega) w2 (fun x' hx' => ?_) ?_ gx g4 (by omega) (by omega) (Nat.le_refl _) gs (by have := gx.2.1; omega)⟩
          · rw [w3, w4, w2.nine, ← hM.nine]
            exact hT x' hx'
          · refine ⟨T, F, s, e, H, h, pc + 1, hcs.cg (fun j hj => ⟨by rw [w5, if_neg (by omega)], by rw [w6, if_neg (by omega)]⟩), ⟨cO, c1, c2, c3, c4, c5⟩, hy, hTe, hFc, by rw [w5, if_pos rfl], xF, x2, ⟨rfl, rfl, rfl⟩, by rw [w6, if_pos rfl]; omega, by omega, by omega, by omega⟩
      · have hh := f30 (by omega)
        obtain ⟨tt, j1, j2, j3, j4, j5⟩ := jp (by unfold jm; omega)
        have j6 := j5 (by omega)
        by_cases y73 : v73 = 0
        · rw [if_pos y73] at e79 e83
          refine ⟨by rw [e83]; exact ⟨by omega, by omega⟩, fun M87 e87 => ?_⟩
          have w := ms_top (t' := T + H (pc + 1)) hM (by omega) (by omega) e87
          exact go (pc1 := pc + 1) (by omega) w.1 w.2.1 (by omega) (by omega) rfl
        · rw [if_neg y73] at e79 e83
          refine ⟨by rw [e83]; exact ⟨by omega, by omega⟩, fun M87 e87 => ?_⟩
          have w := ms_top (t' := T + H tt) hM (by omega) (by omega) e87
          exact go (pc1 := tt) (by omega) w.1 w.2.1 (by omega) (by omega) rfl
      · have hh := f30 (by omega)
        obtain ⟨tt, j1, j2, j3, j4, j5⟩ := jp (by unfold jm; omega)
        have j6 := j4 o33
        refine ⟨⟨by omega, by omega⟩, fun M96 e96 => ?_⟩
        have w := ms_top (t' := T + H (pc + 1)) hM (by omega) (by omega) e96
        obtain ⟨ok6, k06, h86, kA6, kB6, tA6, -⟩ := w.1.pile
        have lA : mN M96 (mR M96 m 6) = mN M (mR M m 6) := by rw [w.2.2.2.1, w.2.2.2.2.1]
        rw [h86, lA]
        refine ⟨kA6, by omega, fun v101 e101 => ?_⟩
        by_cases yy : mI M96 (mR M96 m 6) ((T + H (pc + 1) : Nat) : Int).toNat = 0
        · rw [if_pos yy] at e101
          exact go (pc1 := tt) (by omega) w.1 w.2.1 (by omega) (by omega) (by omega)
        · rw [if_neg yy] at e101
          exact go (pc1 := pc + 1) (by omega) w.1 w.2.1 (by omega) (by omega) rfl
      · obtain ⟨tt, j1, j2, j3, j4, j5⟩ := jp (by unfold jm; omega)
        have j6 := j5 (by omega)
        exact go (pc1 := tt) (by omega) hM mtb.refl (by omega) (by omega) (by omega)
      · have io : i32 (mI M0 O pc) := by rw [← iO]; exact (ok _ _).1
        have ix : i32 (mI M0 P pc) := by rw [← iP]; exact (ok _ _).1
        have cm0 : cmO V t (mI M0 O pc) (mI M0 P pc) (T + H (pc + 1)) := by
          unfold cmO
          rcases fall with q | q | q | q
          · exact absurd q (by omega)
          · have := f40 q
            exact Or.inl ⟨q, by omega, by omega⟩
          · have := f15 q
            exact Or.inr (Or.inr ⟨q, by omega, by omega⟩)
          · obtain ⟨x0, x1, x2, x3⟩ := f43 q
            exact Or.inr (Or.inl ⟨q, x0, x1, x2, by omega⟩)
        refine (s_Ma_compute hF hV io ix cm0 hM hp1 hr0).mono (fun r M' q => ?_)
        obtain ⟨q1, q2⟩ := q
        rcases q1 with ⟨e1, w0, t2, w⟩ | ⟨e1, w⟩
        · rw [e1]
          exact ⟨i32s (by omega) (by omega), w.pile.1, fun _ => ⟨hT.mtb q2 (by rw [w.nine, hM.nine]), Or.inl ⟨rfl, w0, _, _, w⟩⟩, fun u => absurd rfl u⟩
        · rw [e1]
          exact ⟨i32s (by omega) (by omega), w.pile.1, fun u => absurd u (by omega), fun _ => go (pc1 := pc + 1) (by omega) w q2 (by omega) (by omega) rfl⟩
/-- a machine at rest -/
def MR9 (M : mM) (z m U Ab Be C : Nat) : Prop := mOk M ∧ MK M z m U Ab Be C
theorem s_Ma_run (hF : FMs G) (ok : mOk M) (hk : MK M z m U Ab0 Be0 C0) (hT : MT M m X) (hp : PK M z p O P K) (hm0 : mR M m 0 = p) (ha : Mpr M z m p O P Ab0 Be0) (hL : mI M p 2 = L) (hLK : L ≤ K) (hLn : L ≤ 16384) (fo : FO M p O P V ns sf ef L F) (hX : ∀ x, x < F → ns x = 7 → X x) (hF0 : F ≤ 60) (hV : V ≤ 12) {h : Nat} {e : Nat} (hcd : Cod M O P V F ns s e H h) (heL : e < L) (hy : ∀ y, y < F → ns y = 7 → ef y < s) : Ci G y_Ma_run (d + 4) [vr m, vi s] M (rnQ M z m U Ab0 Be0 C0 X h) := by
  obtain ⟨sA, sB, sne, sz⟩ := hk.2.2.2.2.2.1
  have c64 := hk.2.2.2.2.2.2.2
  have hse := hcd.2.2.2.2.2
  refine k_Ma_run ok (i32s (by omega) (by omega)) ⟨hk.1, fun M2 e2 M4 e4 => ?_⟩
  have f2 : FI (fun b => b = m) M M2 := by rw [e2]; exact FI.ui rfl
  have f4 : FI (fun b => b = m) M2 M4 := by rw [e4]; exact FI.ui rfl
  have ff := f2.trans f4
  have g : ∀ i, mI M4 m i = if i = 15 then 0 else if i = 8 then 0 else mI M m i := fun i => by
    rw [mI_ui m i e4]
    by_cases y : i = 15
    · rw [if_pos ⟨rfl, y⟩, if_pos y]
    · rw [if_neg (fun q => y q.2), if_neg y, mI_ui m i e2]
      by_cases y8 : i = 8
      · rw [if_pos ⟨rfl, y8⟩, if_pos y8]
      · rw [if_neg (fun q => y8 q.2), if_neg y8]
  have o4 : mOk M4 := by rw [e4]; exact mOk_UI (by rw [e2]; exact mOk_UI ok (i32s (by omega) (by omega))) (i32s (by omega) (by omega))
  have hM : MS M z m U Ab0 Be0 C0 M4 0 0 := ms_step (M := M) (t' := 0) (c' := 0) o4 hk FA.refl ⟨Or.inl rfl, Or.inl rfl⟩ ⟨rfl, Nat.le_refl _⟩ ⟨rfl, rfl, rfl⟩ (ff.mono (fun _ q => Or.inl q)) (by rw [g, if_neg (by decide), if_neg (by decide)]) (by rw [g, if_neg (by decide), if_neg (by decide)]) (by rw [g, if_neg (by decide), if_pos rfl]; rfl) (by omega) (fun j hj => absurd hj (by omega)) (by rw [g, if_pos rfl]; rfl)
  have hb : mtb m M M4 := fun b h1 h2 => ff.2.2.2.2.2.2 b (by omega)
  exact s_ma14 (E := e) (F0 := F) (s0 := s) (e0 := e) hF hp hm0 ha hL hLK hLn heL fo hX hF0 hV 1000000 0 M4 0 0 F s e H h 0 s (by omega) (by omega) hM (hT.mtb hb (by rw [g, if_neg (by decide), if_neg (by decide)])) ⟨rfl, rfl, rfl, rfl, rfl⟩ hcd hy (by omega) (by omega) (Nat.le_refl _) hse (by have := hcd.2.1; omega)
end MAF
