/-! The class's reader of texts, exactly: a target and a command as items. -/
section TXZ
variable {G : mG} {d z q w T A B D N C n p O P K Ab Be Cm V F c L cnt a k e i j b Nn : Nat} {M0 M M' M1 M2 : mM} {ns : Nat → Int} {sf ef : Nat → Nat} {W pl nq E : Nat → Int} {Cf : Nat → Int × Int} {sm : Nat → Nat → Prop} {s s' : st9} {ft : Int × Int} {g : gm9} {cnt1 L1 : Nat}
theorem itZ.mk (hF : FT M (q + 1) ft) (h1 : ft.1 ≠ 0 → s'.2.2 = ft) (h2 : ft.1 = 0 → s'.2.2 = (0, 0) ∧ CSm M q p s') : itZ q p s' M := by
  by_cases f0 : ft.1 = 0
  · obtain ⟨e1, e2⟩ := h2 f0
    refine ⟨?_, fun _ => e2⟩
    rw [e1]
    exact FT.zz (by rw [hF.1]; exact f0)
  · exact itZ.bad (by rw [h1 f0]; exact hF) (by rw [h1 f0]; exact f0)
theorem x_st_target (h0 : TX M z q w T A B D N C n p O P K Ab Be Cm V F ns sf ef c cnt L) (zs : itZ q p s M) (w11 : W k = 11) (hNn : n ≤ Nn) (ha : mI M1 (q + 1) 2 = ((a : Nat) : Int)) (han : a ≤ n) (tg : tgV W pl nq sm M q p O P n c L k s.1 (fst9 s.2.2 (if mI M p 11 = -1 then (0, 0) else (4, pl k))) 1 M1) (hp0 : mI M p 2 = ((L : Nat) : Int)) (cg : s.2.2.1 = 0 → CGm M p O P W pl nq sm Nn n s g) : ∃ e, mI M1 (q + 1) 2 = ((e + 1 : Nat) : Int) ∧ Rc W [50] 0 [50] (e + 1) ∧ k ≤ e ∧ nxq W 34 Nn k = e ∧ itZ q p (sN W pl nq sm Nn k s) M1 ∧ ((sN W pl nq sm Nn k s).2.2.1 = 0 → CGm M1 p O P W pl nq sm Nn n (sN W pl nq sm Nn k s) (igm9 W pl nq sm Nn s.1 k g)) := by
  obtain ⟨a', ea', tg⟩ := tg
  obtain ⟨-, p11, e, E, Cf, ae, eo, w34, rc, ec, hFT, tk, td⟩ := tg.resolve_left (fun u => absurd u.1 (by first | decide | simp))
  clear tg
  have een : e + 1 ≤ n := by
    rw [ea', ae] at ha
    omega
  have ne : no34 W k e := ((no34.nil : no34 W k k).sc (by rw [w11]; decide)).eo eo
  have nx : nxq W 34 Nn k = e := nxq_34 ne w34 (by omega)
  refine ⟨e, by rw [← ae]; exact ea', rc, ne.1, nx, ?_⟩
  rw [fst9_as] at hFT
  by_cases f0 : s.2.2.1 = 0
  · have cs := zs.2 f0
    have ct := cs.1
    obtain ⟨hl, eV, eF, eC⟩ := cs.len h0
    have e9 : E = E9 sm s.1 0 := by
      have u := (ec.2 ct hl).1
      rw [if_pos rfl] at u
      exact u
    rw [fst9_zr f0, e9] at hFT
    have et : (if mI M p 11 = -1 then ((0 : Int), (0 : Int)) else (4, pl k)) = if s.2.1.2.2.2 = 0 then (0, 0) else (4, pl k) := by
      by_cases c1 : s.2.1.2.2.2 = 0
      · rw [if_pos c1, if_pos (cs.2.2.2.2.1.mpr c1)]
      · rw [if_neg c1, if_neg (fun u => c1 (cs.2.2.2.2.1.mp u))]
    rw [et] at hFT
    obtain ⟨p1, p2⟩ := itc_t (W := W) (pl := pl) (sm := sm) (k := k) (e := e) (s := s) rfl
    have es := sN_t (pl := pl) (nq := nq) (sm := sm) f0 w11 nx
    rw [es]
    have ig : igm9 W pl nq sm Nn s.1 k g = (g.1, some (k + 1, e), g.2.2) := by
      unfold igm9
      rw [if_neg (by omega), if_neg (by omega), if_pos w11, nx]
    rw [ig]
    refine ⟨itZ.mk hFT p1 (fun u => ?_), fun z => ?_⟩
    rotate_left
    · have u := Classical.byContradiction (fun u => u (by have q := p1 u; rw [q] at z; exact z))
      rw [p2 u]
      have fz := (fst9_1.mp u).2
      rw [e9] at ec
      exact CGm.target (cg f0) hp0 eo (by omega) (ec.lf ct hl (fun i hi => (h0.2.1.2.2.1.2.2 i hi).2.2)) (fst9_1.mp fz).1 td
    rw [p2 u]
    obtain ⟨c1, c2, c3, c4, c5, c6⟩ := cs
    refine ⟨rfl, c1.tg tk, ?_, ?_, ?_, ⟨fun v => absurd v p11, fun v => absurd v (by first | decide | simp)⟩, c6⟩
    · rw [tk.2.2.1 3 (by decide) (by decide)]; exact c2
    · rw [tk.2.2.1 7 (by decide) (by decide)]; exact c3
    · rw [tk.2.2.1 12 (by decide) (by decide)]; exact c4
  · rw [sN_n f0]
    rw [fst9_n f0, fst9_n f0] at hFT
    exact ⟨itZ.bad hFT f0, fun z => absurd z f0⟩
theorem x_st_cmd (h0 : TX M z q w T A B D N C n p O P K Ab Be Cm V F ns sf ef c cnt L) (zs : itZ q p s M) (w7 : W k = 7 ∨ W k = 8) (hNn : n ≤ Nn) (ha : mI M1 (q + 1) 2 = ((a : Nat) : Int)) (han : a ≤ n) (cc : ccV W pl nq sm Nn n V O P L M q p c cnt k s.1 (fst9 s.2.2 (if cnt < 60 then (0, 0) else (5, pl k))) 1 M1) (hp0 : mI M p 2 = ((L : Nat) : Int)) (h1' : TX M1 z q w T A B D N C n p O P K Ab Be Cm V F ns sf ef c cnt1 L1) (cg : s.2.2.1 = 0 → CGm M p O P W pl nq sm Nn n s g) : ∃ e, mI M1 (q + 1) 2 = ((e + 1 : Nat) : Int) ∧ Rc W [50] 0 [50] (e + 1) ∧ k ≤ e ∧ nxq W 34 Nn k = e ∧ itZ q p (sN W pl nq sm Nn k s) M1 ∧ ((sN W pl nq sm Nn k s).2.2.1 = 0 → CGm M1 p O P W pl nq sm Nn n (sN W pl nq sm Nn k s) (igm9 W pl nq sm Nn s.1 k g)) := by
  obtain ⟨a', ea', cc⟩ := cc
  obtain ⟨-, ar, ix, E, hix, eo, w17, hE, a2, ea2, cm⟩ := cc.resolve_left (fun u => absurd u.1 (by first | decide | simp))
  clear cc
  obtain ⟨-, e, fB, ae, w34, ne, rc, hFT, hB, k19, k69, kp, k6, k7, bN, hb8, cr⟩ := cm.resolve_left (fun u => absurd u.1 (by first | decide | simp))
  clear cm
  have een : e + 1 ≤ n := by
    rw [ea2, ae] at ha
    omega
  have nx : nxq W 34 Nn k = e := nxq_34 ne w34 (by
    clear hB
    omega)
  have ale : ar ≤ e := by
    have u := eo.pr.1
    by_cases c : ar ≤ e
    · exact c
    · have v := eo.rw9 (j := e) (by
        have := ne.1
        by_cases c2 : k = e
        · rw [← c2] at w34
          rcases w7 with x | x <;> rw [w34] at x <;> exact absurd x (by first | decide | simp)
        · omega) (by omega)
      unfold rwd at v
      rw [w34] at v
      clear hB
      omega
  have hr : nxq W 17 Nn (k + 1) = ar := nxq_at (Nat.le_of_lt eo.pr.1) (by
    clear hB
    omega) w17 (fun t t1 t2 => eo.no9 (Or.inr (Or.inr rfl)) t1 t2)
  refine ⟨e, by rw [← ae]; exact ea2, rc, ne.1, nx, ?_⟩
  by_cases f0 : s.2.2.1 = 0
  · have cs := zs.2 f0
    have ct := cs.1
    obtain ⟨hl, eV, eF, eC⟩ := cs.len h0
    have c60 : cnt ≤ 60 := h0.2.2.1.2
    have e9 := hE ct hl
    obtain ⟨b1, b2⟩ := hB ct hl
    rw [fst9_zr f0, e9] at hFT
    obtain ⟨p1, p2⟩ := itc_c (W := W) (pl := pl) (sm := sm) (Nn := Nn) (k := k) (e := e) (ar := ar) (s := s) (nC := cnt) (f := vrf W (E9 sm s.1 0) pl 1 (k + 1) ar) (fB := fB) eC c60 hr rfl b1 b2
    have es := sN_c (pl := pl) (nq := nq) (sm := sm) f0 w7 nx
    rw [es]
    have ig : igm9 W pl nq sm Nn s.1 k g = (g.1, g.2.1, g.2.2 ++ [cmd9 W pl sm Nn s.1 k e]) := by
      unfold igm9
      rw [if_neg (by omega), if_neg (by omega), if_neg (by omega), nx]
    rw [ig]
    refine ⟨itZ.mk hFT p1 (fun u => ?_), fun z => ?_⟩
    rotate_left
    · have u := Classical.byContradiction (fun u => u (by have q := p1 u; rw [q] at z; exact z))
      rw [p2 u]
      have z3 : mI M1 (q + 1) 3 = 0 := by rw [hFT.1]; exact u
      exact CGm.cmd (cg f0) hp0 eC (by rw [cs.2.2.2.2.2.2.1, eV]) cr ct hl z3 ne w34 hr (hb8 (fst9_1.mp u).2) (fun v hv => by
        have v9 := (fst9_1.mp (fst9_1.mp u).1).1
        have c6' : cnt < 60 := by
          by_cases c1 : cnt < 60
          · exact c1
          · rw [if_neg c1] at v9
            exact absurd v9 (by first | decide | simp)
        have eix := hix c6'
        obtain ⟨u', hu', pg⟩ := h1'.2.2.2 z3
        obtain ⟨uu, e1, -, e3⟩ := pg.2.2.2.2.2.1
        have a9 := h1'.2.2.1.1
        rw [kp 12 (by decide), if_pos rfl] at a9
        have c1 : cnt1 = cnt + 1 := by omega
        rw [c1, hv] at e1
        omega)
    rw [p2 u]
    have c6' : cnt < 60 := by
      have v := (fst9_1.mp (fst9_1.mp u).1).1
      by_cases c1 : cnt < 60
      · exact c1
      · rw [if_neg c1] at v
        exact absurd v (by first | decide | simp)
    have eix := hix c6'
    obtain ⟨c1, c2, c3, c4, c5, c6⟩ := cs
    refine ⟨rfl, c1.cg k19 (k69 6 (by decide) (by decide)) (k69 7 (by decide) (by decide)) (k69 8 (by decide) (by decide)) (k69 9 (by decide) (by decide)) k6 k7, ?_, ?_, ?_, ?_, c6⟩
    · rw [kp 3 (by decide), if_neg (by decide)]; exact c2
    · rw [kp 7 (by decide), if_neg (by decide)]; exact c3
    · rw [kp 12 (by decide), if_pos rfl]
      show (ix : Int) + 1 = ((s.2.1.2.2.1 + 1 : Nat) : Int)
      clear hB hix c5
      omega
    · rw [kp 11 (by decide), if_neg (by decide)]; exact c5
  · rw [sN_n f0]
    rw [fst9_n f0, fst9_n f0, fst9_n f0] at hFT
    exact ⟨itZ.bad hFT f0, fun z => absurd z f0⟩
end TXZ
