section
/-! The class's machine, exactly: a rule that was read when only the first H consts and formulas were known. -/
section QAJ
variable {G : mG} {d z m U Ab0 Be0 C0 cc p O P K L F0 H s0 : Nat} {M0 : mM} {w E pl : Nat → Int} {cv : Nat → vrs} {ec : Nat → Int × Int} {fv : Nat → vrs} {ns : Nat → Int} {sf ef : Nat → Nat} {X : Nat → Prop}
theorem x_Ma_runw {i j s e : Nat} (hH : H ≤ F0) (hF : FMx G) (ok : mOk M0) (hk : MK M0 z m U Ab0 Be0 C0) (hT : MT M0 m X) (hV : MVp m fv ns F0 M0) (hE : Rnv M0 z m Ab0 Be0 p O P K L) (hF0 : F0 ≤ 60) (hU : ¬ mcS m Ab0 Be0 U ∧ U < mZ M0) (fr : ∀ x, x < F0 → ns x = 7 → Frq M0 p m U O P L pl w fv ns sf ef X x) (hy : ∀ x, x < H → ns x = 7 → ef x < s) (hlf : ∀ k, (w k = 1 ∨ w k = 2 ∨ w k = 12 ∨ w k = 13) → (w k = 1 → E k ≠ -1) → Lfq M0 p m U fv ns H w E cv ec k) (eo : Eo w 6 i j) (hf : (fl w E pl 0 i j).1 = 0) (hc : Cd w ec pl (mI M0 O) (mI M0 P) 0 0 0 i j s e) (he : e < L) (oe : mI M0 O e = 0) : Ci G y_Ma_run (d + 4) [vr m, vi s] M0 (fun r M' => rnQ M0 z m U Ab0 Be0 C0 X 1 r M' ∧ rnx m (vlq w cv pl 0 0 i j) r M' ∧ MVp m fv ns F0 M') := by
  have c64 := hk.2.2.2.2.2.2.2
  have hLn := hE.2.2.2.2.2
  have lse := hc.lt
  refine k_Ma_run ok (i32s (by omega) (by omega)) ⟨hk.1, fun M2 e2 M4 e4 => ?_⟩
  have f2 : FI (fun b => b = m) M0 M2 := by rw [e2]; exact FI.ui rfl
  have f4 : FI (fun b => b = m) M2 M4 := by rw [e4]; exact FI.ui rfl
  have ff := f2.trans f4
  have g : ∀ i, mI M4 m i = if i = 15 then 0 else if i = 8 then 0 else mI M0 m i := fun i => by
    rw [mI_ui m i e4]
    by_cases y : i = 15
    · rw [if_pos ⟨rfl, y⟩, if_pos y]
    · rw [if_neg (fun q => y q.2), if_neg y, mI_ui m i e2]
      by_cases y8 : i = 8
      · rw [if_pos ⟨rfl, y8⟩, if_pos y8]
      · rw [if_neg (fun q => y8 q.2), if_neg y8]
  have o4 : mOk M4 := by rw [e4]; exact mOk_UI (by rw [e2]; exact mOk_UI ok (i32s (by omega) (by omega))) (i32s (by omega) (by omega))
  have hM : MS M0 z m U Ab0 Be0 C0 M4 0 0 := ms_step (M := M0) (t' := 0) (c' := 0) o4 hk FA.refl ⟨Or.inl rfl, Or.inl rfl⟩ ⟨rfl, Nat.le_refl _⟩ ⟨rfl, rfl, rfl⟩ (ff.mono (fun _ q => Or.inl q)) (by rw [g, if_neg (by decide), if_neg (by decide)]) (by rw [g, if_neg (by decide), if_neg (by decide)]) (by rw [g, if_neg (by decide), if_pos rfl]; rfl) (by omega) (fun j hj => absurd hj (by omega)) (by rw [g, if_pos rfl]; rfl)
  have hb : mtq m M0 M4 := mtq.fi ff
  have g9 : mI M4 m 9 = mI M0 m 9 := by rw [g, if_neg (by decide), if_neg (by decide)]
  have hT4 : MT M4 m X := hT.mtb hb.mtb g9
  have hv4 : MSv M0 z m U Ab0 Be0 C0 fv ns F0 X M4 0 0 := ⟨hM, fun x hx h7 u => by
    rw [hb (m + 5) (by omega), g9] at u
    rw [hb (m + 6) (by omega), hb (m + 7) (by omega)]
    exact hV x hx h7 u, hT4⟩
  have pt := ptl_le (m := m) (sf := sf) (ef := ef) (M := M4) (fun x hx h7 => by
    have := (fr x hx h7).2.2.2.1
    omega) H hH
  refine run_allv (cv := cv) (H := H) (s0 := s) hF hE (fun k h1 h2 => lfq_rc hE hF0 hH (fun _ => by decide) hU hy (fun x hx h7 => ⟨fr x (by omega) h7, frm_rc hF hE hF0 hU fr x (by omega) h7 1 (by omega)⟩) (hlf k h1 h2)) _ 0 i j (Nat.le_refl _) (Or.inl ⟨rfl, eo⟩) hf (fun u => absurd u (by decide)) 0 0 0 s e (fun u => absurd u (by decide)) hc (by omega) 0 0 M4 _ (by omega) (by omega) hv4 (fun M' i' z1 l1 h1 b1 _ t1 => ?_) (fun M' z1 e1 e2 h1 b1 => ?_)
  · exact run_end hE he (by omega) h1.1 oe ⟨⟨h1.2.2, Or.inr ⟨rfl, h1.1⟩⟩, Or.inr ⟨rfl, z1, t1⟩, h1.2.1⟩
  · obtain ⟨t2, c2, h2⟩ := h1
    exact ⟨⟨b1.2, Or.inl ⟨rfl, by rw [e1]; exact z1, t2, c2, h2⟩⟩, Or.inl ⟨rfl, z1, e1, e2⟩, b1.1⟩
end QAJ
section QAK
variable {G : mG} {d z m U Ab0 Be0 C0 cc p O P K L F0 H s0 : Nat} {M0 : mM} {w E pl lo hi : Nat → Int} {cv : Nat → vrs} {Φ : (Nat → Int × Int) → Prop} {fv : Nat → vrs} {ns : Nat → Int} {sf ef : Nat → Nat} {X : Nat → Prop}
theorem run_stw (hH : H ≤ F0) (hF : FMx G) (hE : Rnv M0 z m Ab0 Be0 p O P K L) (hF0 : F0 ≤ 60) (hU : ¬ mcS m Ab0 Be0 U ∧ U < mZ M0) (fr : ∀ x, x < F0 → ns x = 7 → Frq M0 p m U O P L pl w fv ns sf ef X x) (hy : ∀ x, x < H → ns x = 7 → ef x < s0) (hlf : ∀ ec, Φ ec → ∀ k, (w k = 1 ∨ w k = 2 ∨ w k = 12 ∨ w k = 13) → (w k = 1 → E k ≠ -1) → Lfq M0 p m U fv ns H w E cv ec k) (elo : ∀ v, v < 12 → lo v = mI M0 (p + 3) v) (ehi : ∀ v, v < 12 → hi v = mI M0 (p + 4) v) {Q : Int → mM → Prop} : ∀ (l : List (Nat × Nat × Nat × Nat)) (s e i : Nat) (M : mM) (nx : Nat → Int), (∀ q, q ∈ l → Eo w 6 q.2.1 q.2.2.1 ∧ (fl w E pl 0 q.2.1 q.2.2.1).1 = 0 ∧ q.1 < 12 ∧ 0 ≤ pl q.2.2.2 ∧ pl q.2.2.2 ≤ 16384) → Scw Φ w pl (mI M0 O) (mI M0 P) l s e → e < L → mI M0 O e = 0 → s0 ≤ s → i + (e - s) + ptl m ns sf ef M H < 1000000 → MSv M0 z m U Ab0 Be0 C0 fv ns F0 X M 0 0 → (∀ j, j < 12 → mI M (m + 2) j = nx j) →
  ((stq9 w cv pl lo hi l nx).1.1 = 0 → ∀ M', MSv M0 z m U Ab0 Be0 C0 fv ns F0 X M' 0 0 → (∀ j, j < 12 → mI M' (m + 2) j = (stq9 w cv pl lo hi l nx).2 j) → Q 1 M') →
  ((stq9 w cv pl lo hi l nx).1.1 ≠ 0 → ∀ M', mI M' m 1 = (stq9 w cv pl lo hi l nx).1.1 → mI M' m 2 = (stq9 w cv pl lo hi l nx).1.2 → (∃ t2 c2, MS M0 z m U Ab0 Be0 C0 M' t2 c2) → (MVp m fv ns F0 M' ∧ MT M' m X) → Q 0 M') → h_Ma_run_14 G (d + 3) m (s : Int) (i : Int) M Q := by
  have hL := hE.2.2.2.2.2
  intro l
  induction l with
  | nil =>
    intro s e i M nx _ hc he oe _ hi hM hn next _
    have hc : s = e := hc
    subst hc
    exact run_end hE he (by omega) hM.1 oe (next rfl M hM hn)
  | cons q r ih =>
    intro s e i M nx hq hc he oe hs0 hi hM hn next flt
    obtain ⟨q1, q2, q3, q4, q5⟩ := hq q List.mem_cons_self
    have cl := Scw.le _ hc
    obtain ⟨a, ec, hφ, c1, o1, p1, c2⟩ := hc
    have l1 := c1.lt
    have l2 := Scw.le _ c2
    rw [stq9] at next flt
    have rc : Rcv G d M0 z m U Ab0 Be0 C0 fv ns sf ef F0 X 0 H s0 (vlq w cv pl 0 0 q.2.1 q.2.2.1) s a := run_allv hF hE (fun k h1 h2 => lfq_rc hE hF0 hH (fun _ => by decide) hU hy (fun x hx h7 => ⟨fr x (by omega) h7, frm_rc hF hE hF0 hU fr x (by omega) h7 1 (by omega)⟩) (hlf ec hφ k h1 h2)) _ 0 q.2.1 q.2.2.1 (Nat.le_refl _) (Or.inl ⟨rfl, q1⟩) q2 (fun u => absurd u (by decide)) 0 0 0 s a (fun u => absurd u (by decide)) c1 (by omega)
    generalize vlq w cv pl 0 0 q.2.1 q.2.2.1 = v at rc next flt
    refine rc 0 i M Q (by omega) (by omega) hM (fun M1 i1 z1 b1 h1 k1 _ t1 => ?_) (fun M1 z1 e1 e2 h1 b1 => ?_)
    · rw [if_neg (show ¬ v.1 ≠ 0 from fun u => u z1), elo q.1 q3, ehi q.1 q3] at next flt
      refine run_set hE (by omega) (by omega) h1.1 o1 p1 q3 ⟨q4, q5⟩ t1 (fun z2 M2 h2 b2 _ n2 => ?_) (fun z2 M2 e1 e2 h2 b2 => ?_)
      · obtain ⟨h2', v2⟩ := h1.ofb (H := H) (sf := sf) (ef := ef) h2 b2
        rw [if_neg (fun u => u z2)] at next flt
        refine ih (a + 1) e (i1 + 1) M2 _ (fun q' h' => hq q' (List.mem_cons_of_mem _ h')) c2 he oe (by omega) (by omega) h2' (fun j hj => ?_) next flt
        rw [n2 j, k1.2.2, hn j hj]
      · obtain ⟨h2', -⟩ := h1.ofb (H := H) (sf := sf) (ef := ef) h2 b2
        rw [if_pos z2] at flt
        exact flt z2 M2 e1 e2 ⟨_, _, h2⟩ h2'.2
    · rw [if_pos z1] at flt
      exact flt z1 M1 e1 e2 h1 b1
/-- a branch's sets -/
theorem x_Ma_runt (hH : H ≤ F0) {s e : Nat} {l : List (Nat × Nat × Nat × Nat)} {nx : Nat → Int} (hF : FMx G) (ok : mOk M0) (hk : MK M0 z m U Ab0 Be0 C0) (hT : MT M0 m X) (hV : MVp m fv ns F0 M0) (hE : Rnv M0 z m Ab0 Be0 p O P K L) (hF0 : F0 ≤ 60) (hU : ¬ mcS m Ab0 Be0 U ∧ U < mZ M0) (fr : ∀ x, x < F0 → ns x = 7 → Frq M0 p m U O P L pl w fv ns sf ef X x) (hy : ∀ x, x < H → ns x = 7 → ef x < s) (hlf : ∀ ec, Φ ec → ∀ k, (w k = 1 ∨ w k = 2 ∨ w k = 12 ∨ w k = 13) → (w k = 1 → E k ≠ -1) → Lfq M0 p m U fv ns H w E cv ec k) (elo : ∀ v, v < 12 → lo v = mI M0 (p + 3) v) (ehi : ∀ v, v < 12 → hi v = mI M0 (p + 4) v) (hq : ∀ q, q ∈ l → Eo w 6 q.2.1 q.2.2.1 ∧ (fl w E pl 0 q.2.1 q.2.2.1).1 = 0 ∧ q.1 < 12 ∧ 0 ≤ pl q.2.2.2 ∧ pl q.2.2.2 ≤ 16384) (hc : Scw Φ w pl (mI M0 O) (mI M0 P) l s e) (he : e < L) (oe : mI M0 O e = 0) (hn : ∀ j, j < 12 → mI M0 (m + 2) j = nx j) : Ci G y_Ma_run (d + 4) [vr m, vi s] M0 (fun r M' => rnQ M0 z m U Ab0 Be0 C0 X 0 r M' ∧ ((r = 0 ∧ (stq9 w cv pl lo hi l nx).1.1 ≠ 0 ∧ mI M' m 1 = (stq9 w cv pl lo hi l nx).1.1 ∧ mI M' m 2 = (stq9 w cv pl lo hi l nx).1.2) ∨ (r = 1 ∧ (stq9 w cv pl lo hi l nx).1.1 = 0 ∧ ∀ j, j < 12 → mI M' (m + 2) j = (stq9 w cv pl lo hi l nx).2 j)) ∧ MVp m fv ns F0 M') := by
  have lse := Scw.le _ hc
  have c64 := hk.2.2.2.2.2.2.2
  have hLn := hE.2.2.2.2.2
  refine k_Ma_run ok (i32s (by omega) (by omega)) ⟨hk.1, fun M2 e2 M4 e4 => ?_⟩
  have f2 : FI (fun b => b = m) M0 M2 := by rw [e2]; exact FI.ui rfl
  have f4 : FI (fun b => b = m) M2 M4 := by rw [e4]; exact FI.ui rfl
  have ff := f2.trans f4
  have g : ∀ i, mI M4 m i = if i = 15 then 0 else if i = 8 then 0 else mI M0 m i := fun i => by
    rw [mI_ui m i e4]
    by_cases y : i = 15
    · rw [if_pos ⟨rfl, y⟩, if_pos y]
    · rw [if_neg (fun q => y q.2), if_neg y, mI_ui m i e2]
      by_cases y8 : i = 8
      · rw [if_pos ⟨rfl, y8⟩, if_pos y8]
      · rw [if_neg (fun q => y8 q.2), if_neg y8]
  have o4 : mOk M4 := by rw [e4]; exact mOk_UI (by rw [e2]; exact mOk_UI ok (i32s (by omega) (by omega))) (i32s (by omega) (by omega))
  have hM : MS M0 z m U Ab0 Be0 C0 M4 0 0 := ms_step (M := M0) (t' := 0) (c' := 0) o4 hk FA.refl ⟨Or.inl rfl, Or.inl rfl⟩ ⟨rfl, Nat.le_refl _⟩ ⟨rfl, rfl, rfl⟩ (ff.mono (fun _ q => Or.inl q)) (by rw [g, if_neg (by decide), if_neg (by decide)]) (by rw [g, if_neg (by decide), if_neg (by decide)]) (by rw [g, if_neg (by decide), if_pos rfl]; rfl) (by omega) (fun j hj => absurd hj (by omega)) (by rw [g, if_pos rfl]; rfl)
  have hb : mtq m M0 M4 := mtq.fi ff
  have g9 : mI M4 m 9 = mI M0 m 9 := by rw [g, if_neg (by decide), if_neg (by decide)]
  have hT4 : MT M4 m X := hT.mtb hb.mtb g9
  have hv4 : MSv M0 z m U Ab0 Be0 C0 fv ns F0 X M4 0 0 := ⟨hM, fun x hx h7 u => by
    rw [hb (m + 5) (by omega), g9] at u
    rw [hb (m + 6) (by omega), hb (m + 7) (by omega)]
    exact hV x hx h7 u, hT4⟩
  have pt := ptl_le (m := m) (sf := sf) (ef := ef) (M := M4) (fun x hx h7 => by
    have := (fr x hx h7).2.2.2.1
    omega) H hH
  refine run_stw (cv := cv) (s0 := s) hH hF hE hF0 hU fr hy hlf elo ehi l s e 0 M4 nx hq hc he oe (Nat.le_refl _) (by omega) hv4 (fun j hj => by rw [hb (m + 2) (Or.inl rfl)]; exact hn j hj) (fun z1 M' h1 n1 => ?_) (fun z1 M' e1 e2 h1 b1 => ?_)
  · exact ⟨⟨h1.2.2, Or.inr ⟨rfl, h1.1⟩⟩, Or.inr ⟨rfl, z1, n1⟩, h1.2.1⟩
  · obtain ⟨t2, c2, h2⟩ := h1
    exact ⟨⟨b1.2, Or.inl ⟨rfl, by rw [e1]; exact z1, t2, c2, h2⟩⟩, Or.inl ⟨rfl, z1, e1, e2⟩, b1.1⟩
end QAK
end
section
/-! The class's game, exactly: a rule is worked out in a state. -/
section GBA
variable {G : mG} {d z g m U p O P K V F L cnt Ab Be C Ab0 Be0 C0 n N : Nat} {M0 M M' : mM} {ns : Nat → Int} {sf ef : Nat → Nat} {F1 : Nat} {ns1 : Nat → Int} {sf1 ef1 : Nat → Nat} {W pl nq : Nat → Int} {sm : Nat → Nat → Prop} {nms : List nm9} {sg : Nat → Int} {X : Nat → Prop}
/-- what a leaf's order pushes in a state -/
theorem lf_st {r l : List nm9} {ec : Nat → Int × Int} (hq : NqO W nq n) (hn : NmO W pl sm N n nms) (hs : SgO sg nms) (fm : FmC M p O P L W pl nq sm N n ns sf ef nms) (hr : nms = r ++ l) (hV : vcn nms ≤ 12) (hF : rcn nms ≤ 60) (hst : ∀ v, v < vcn nms → mI M U ((mI M m 4).toNat + v) = sg v) (lf : LfC W nq sm n r ec) : ∀ k, (W k = 1 ∨ W k = 2 ∨ W k = 12 ∨ W k = 13) → (W k = 1 → E9 sm r 0 k ≠ -1) → Lfq M p m U (fvs W pl nq sm N sg nms.reverse) ns (rcn r) W (E9 sm r 0) (cvb W pl nq sm N sg n r.reverse) ec k := by
  intro k hk hne
  refine ⟨cvb_ok hq (fun a e' b u => nvs_ok hq hn hs _ a e' (b ++ l) (Nat.le_refl _) (by rw [hr, u]; simp)) k hk hne, ?_⟩
  unfold cvb
  by_cases kn : k < n
  · rw [if_pos kn]
    obtain ⟨c2, c12, c13, c1⟩ := lf.2 k kn
    by_cases h1 : W k = 1
    · obtain ⟨l1, e, l2, q1, q2, q3, q4⟩ := E9_sp (hne h1)
      have hc := c1 h1 l1 e l2 q1 q2 q3
      have b := cvs_old (pl := pl) (nq := nq) (N := N) (sg := sg) (l := []) h1 q1 q2 q3
      rw [List.append_nil] at b
      have hm : nms = l1 ++ e :: (l2 ++ l) := by rw [hr, q1]; simp
      obtain ⟨⟨e1, e3⟩, -⟩ := hn l1 e (l2 ++ l) hm
      rw [b, hc]
      have rl : rcn r = rcn l1 + rcn (e :: l2) := by rw [q1, rcn_app]
      have vl : vcn nms = vcn l1 + vcn (e :: (l2 ++ l)) := by rw [hm, vcn_app]
      have rn : rcn nms = rcn r + rcn l := by rw [hr, rcn_app]
      by_cases y3 : e.2.1 = 3
      · have vl2 : vcn (e :: (l2 ++ l)) = vcn (l2 ++ l) + 1 := by
          show vcn (l2 ++ l) + (if e.2.1 = 3 then 1 else 0) = _
          rw [if_pos y3]
        refine Or.inr (Or.inr (Or.inl ⟨?_, vcn l1, ?_, by omega, ?_⟩))
        · show srt9 e.2.1 = 5
          rw [y3]; rfl
        · show (if e.2.1 = 3 then ((vcn l1 : Nat) : Int) else ((rcn l1 : Nat) : Int)) = _
          rw [if_pos y3]
        · unfold nvs
          rw [if_neg (by omega), if_pos y3, vcn_rev, hst _ (by omega)]
      · have rl2 : rcn (e :: l2) = rcn l2 + 1 := by
          show rcn l2 + (if e.2.1 = 3 then 0 else 1) = _
          rw [if_neg y3]
        obtain ⟨f1, f2, f3⟩ := fm l1 e (l2 ++ l) hm y3
        by_cases y1 : e.2.1 = 1
        · obtain ⟨g1, g2⟩ := f2 y1
          refine Or.inr (Or.inl ⟨?_, rcn l1, ?_, by omega, g2, ?_⟩)
          · show srt9 e.2.1 = 4
            rw [y1]; rfl
          · show (if e.2.1 = 3 then ((vcn l1 : Nat) : Int) else ((rcn l1 : Nat) : Int)) = _
            rw [if_neg y3]
          · unfold nvs
            rw [if_pos y1]
            exact g1
        · have y2 : e.2.1 = 2 := by omega
          refine Or.inr (Or.inr (Or.inr ⟨?_, rcn l1, ?_, by omega, ?_, ?_⟩))
          · show srt9 e.2.1 = 7
            rw [y2]; rfl
          · show (if e.2.1 = 3 then ((vcn l1 : Nat) : Int) else ((rcn l1 : Nat) : Int)) = _
            rw [if_neg y3]
          · rw [f1, y2]; rfl
          · have e9 : nms.reverse = (l2 ++ l).reverse ++ e :: l1.reverse := by rw [hm]; simp
            rw [e9, ← rcn_rev l1]
            exact (fvs_at y3 _).symm
    · rw [cvs_no h1]
      refine Or.inl ?_
      by_cases h2 : W k = 2
      · rw [if_pos h2, c2 h2]
        exact ⟨rfl, rfl⟩
      · rw [if_neg h2]
        by_cases h3 : W k = 12
        · rw [if_pos h3, c12 h3]
          exact ⟨rfl, rfl⟩
        · rw [if_neg h3, c13 (by omega)]
          exact ⟨rfl, rfl⟩
  · rw [if_neg kn, lf.1 k (by omega)]
    exact Or.inl ⟨rfl, rfl⟩
theorem fr_st (hq : NqO W nq n) (hn : NmO W pl sm N n nms) (hs : SgO sg nms) (fm : FmC M p O P L W pl nq sm N n ns sf ef nms) (hV : vcn nms ≤ 12) (hF : rcn nms ≤ 60) (hst : ∀ v, v < vcn nms → mI M U ((mI M m 4).toNat + v) = sg v) (hX : ∀ x, x < 60 → X x) : ∀ x, x < rcn nms → ns x = 7 → Frq M p m U O P L pl W (fvs W pl nq sm N sg nms.reverse) ns sf ef X x := by
  intro x hx h7
  obtain ⟨l1, e, l2, q1, q2, q3⟩ := rcn_sp nms x hx
  obtain ⟨f1, f2, f3⟩ := fm l1 e l2 q1 q2
  rw [q3] at f1 f2 f3
  have y2 : e.2.1 = 2 := srt_7 (by rw [← f1]; exact h7)
  obtain ⟨g1, g2, g3, g4, g5, ec, g6, g7⟩ := f3 y2
  obtain ⟨-, -, -, hf⟩ := hn l1 e l2 q1
  obtain ⟨t1, t2, t3, t4⟩ := hf y2
  refine ⟨hX x (by omega), g1, g2, g3, g4, g5, e.1 + 2, nxq W 34 N e.1, E9 sm l1 0, cvb W pl nq sm N sg n l1.reverse, ec, t1, t3, g7, ?_, ?_⟩
  · have e9 : nms.reverse = l2.reverse ++ e :: l1.reverse := by rw [q1]; simp
    rw [cvb_vl t1 t2, e9]
    have := fvs_at (w := W) (pl := pl) (nq := nq) (sm := sm) (N := N) (sg := sg) (r := l1.reverse) q2 l2.reverse
    rw [rcn_rev, q3] at this
    rw [this]
    unfold nvs
    rw [if_neg (by omega), if_neg q2]
  · have := lf_st (m := m) (U := U) hq hn hs fm q1 hV hF hst g6
    rw [q3] at this
    exact this
/-- what the game's runs hang on -/
def gcx (M0 : mM) (g p O P L V F Ab0 Be0 : Nat) (ns : Nat → Int) (sf ef : Nat → Nat) (W pl nq : Nat → Int) (sm : Nat → Nat → Prop) (N n : Nat) (nms : List nm9) : Prop := (¬ gaS g Ab0 Be0 O ∧ ¬ gaS g Ab0 Be0 P ∧ O < mZ M0 ∧ P < mZ M0 ∧ F ≤ 60) ∧ NqO W nq n ∧ NmO W pl sm N n nms ∧ FmC M0 p O P L W pl nq sm N n ns sf ef nms ∧ rcn nms = F ∧ vcn nms = V
/-- the machine stands in state k, whose values are sg -/
def gst9 (M : mM) (g V F : Nat) (ns W pl nq : Nat → Int) (sm : Nat → Nat → Prop) (N : Nat) (nms : List nm9) (k : Nat) (sg : Nat → Int) : Prop := mI M (g + 10) 4 = ((12 * k : Nat) : Int) ∧ (∀ v, v < V → mI M (g + 1) (12 * k + v) = sg v) ∧ SgO sg nms ∧ MVp (g + 10) (fvs W pl nq sm N sg nms.reverse) ns F M
theorem gst9.cg {k : Nat} (h : gst9 M g V F ns W pl nq sm N nms k sg) (e10 : ∀ i, i = 4 ∨ i = 9 → mI M' (g + 10) i = mI M (g + 10) i) (e1 : ∀ v, v < V → mI M' (g + 1) (12 * k + v) = mI M (g + 1) (12 * k + v)) (e5 : mI M' (g + 15) = mI M (g + 15)) (e6 : mI M' (g + 16) = mI M (g + 16)) (e7 : mI M' (g + 17) = mI M (g + 17)) : gst9 M' g V F ns W pl nq sm N nms k sg := by
  obtain ⟨h1, h2, h3, h4⟩ := h
  refine ⟨by rw [e10 4 (Or.inl rfl)]; exact h1, fun v hv => by rw [e1 v hv]; exact h2 v hv, h3, fun x hx h7 u => ?_⟩
  have u : mI M' (g + 15) x = mI M' (g + 10) 9 := u
  rw [e5, e10 9 (Or.inr rfl)] at u
  have := h4 x hx h7 u
  show _ = (0, mI M' (g + 16) x, mI M' (g + 17) x)
  rw [e6, e7]
  exact this
theorem gx_O (hx : GX M0 z g p O P K V F1 ns1 sf1 ef1 L cnt Ab0 Be0 C0 M Ab Be C) (cx : gcx M0 g p O P L V F Ab0 Be0 ns sf ef W pl nq sm N n nms) : mI M O = mI M0 O ∧ mI M P = mI M0 P := by
  obtain ⟨⟨a, b, c, e, -⟩, -⟩ := cx
  obtain ⟨-, -, -, -, -, -, -, ⟨f, -⟩, -⟩ := hx
  exact ⟨(f.2 O c).2.2.2.2 a, (f.2 P e).2.2.2.2 b⟩
theorem gx_p (hx : GX M0 z g p O P K V F1 ns1 sf1 ef1 L cnt Ab0 Be0 C0 M Ab Be C) : ∀ i, i ≤ 15 → mI M (p + i) = mI M0 (p + i) := hx.2.2.2.2.2.2.2.2.2
/-- what a run of the game's machine comes to -/
def grQ (M0 : mM) (z g p O P K V F1 : Nat) (ns1 : Nat → Int) (sf1 ef1 : Nat → Nat) (L cnt Ab0 Be0 C0 : Nat) (M : mM) (Ab Be : Nat) (r : Int) (M' : mM) : Prop := i32 r ∧ mOk M' ∧ (r = 0 ∨ r = 1) ∧ ∃ Ab' Be' C', GX M0 z g p O P K V F1 ns1 sf1 ef1 L cnt Ab0 Be0 C0 M' Ab' Be' C' ∧ FA (mcS (g + 10) Ab Be) (fun x => x = g + 10) M M' ∧ (mI M' (g + 10) 9 = mI M (g + 10) 9 ∧ mI M' (g + 10) 4 = mI M (g + 10) 4)
theorem gr_mk {h0 : Nat} {r : Int} (hx : GX M0 z g p O P K V F1 ns1 sf1 ef1 L cnt Ab0 Be0 C0 M Ab Be C) (k : rnQ M z (g + 10) (g + 1) Ab Be C (fun x => x < 60 ∧ 1 = 1) h0 r M') : grQ M0 z g p O P K V F1 ns1 sf1 ef1 L cnt Ab0 Be0 C0 M Ab Be r M' := by
  have ne := hx.ne
  obtain ⟨h1, h2, h3, h4, h5, ⟨h61, h62, h63⟩, h7, h8, h9, h10⟩ := hx
  obtain ⟨p1, -⟩ := id h4
  obtain ⟨o1, o2, -, o4⟩ := p1.2.2.2.1
  obtain ⟨a1, a2, a3, a4⟩ := h3.2.2.2.2.2.1
  obtain ⟨k1, k2⟩ := k
  have hr : r = 0 ∨ r = 1 := k2.imp (fun u => u.1) (fun u => u.1)
  have fin : ∀ {t c : Nat}, MS M z (g + 10) (g + 1) Ab Be C M' t c → grQ M0 z g p O P K V F1 ns1 sf1 ef1 L cnt Ab0 Be0 C0 M Ab Be r M' := fun {t c} hM => by
    obtain ⟨Ab', Be', C', ok, hk, hf, hab, hr', ⟨m8, mt, mb⟩, -, hm⟩ := hM
    have hf9 : FA (gaS g Ab Be) (gaR g) M M' := hf.mono (fun x _ y => by
      have y' : x = g + 10 ∨ x = g + 10 + 2 ∨ (g + 10 + 5 ≤ x ∧ x ≤ g + 10 + 9) ∨ x = Ab ∨ x = Be := y
      show (g ≤ x ∧ x ≤ g + 22) ∨ x = Ab ∨ x = Be
      omega) (fun x _ y => Or.inr y)
    obtain ⟨z1, zA, zB, zU⟩ := h3.2.2.2.2.2.2.1
    obtain ⟨pz0, pz1, pz2⟩ := p1.2.2.2.2.1
    have cl : ∀ i, i ≤ 22 → mK M' (g + i) = mK M (g + i) ∧ mN M' (g + i) = mN M (g + i) := fun i hi => ⟨(hf.2 (g + i) (by omega)).1, (hf.2 (g + i) (by omega)).2.1⟩
    have rg : mR M' g = mR M g := (hf.2 g (by omega)).2.2.2.1 (show ¬ g = g + 10 by omega)
    refine ⟨m_b32 hr, ok, hr, Ab', Be', C', ⟨ok, h2.eq2 cl (fun i _ => by rw [rg]), hk, h4.fa hf9 ne.2.2.2 ne.1 ne.2.1 ne.2.2.1, ⟨by rw [rg]; exact h5.1, by rw [hm.2.2]; exact h5.2⟩, ⟨h61, h62, ?_⟩, k1, h8.trans ⟨hf9, hab, hr'⟩, fun x hx => (k1 x ⟨hx, rfl⟩).1, fun i hi => by rw [(hf9.2 (p + i) (by omega)).2.2.2.2 (ne.1 i hi)]; exact h10 i hi⟩, hf, hm.1, hm.2.1⟩
    clear h1 h2 h3 h4 h5 h7 h8 h9 h10 k1 k2 hk hf hf9 cl rg mb hr' hm hr ne
    omega
  rcases k2 with ⟨e1, f0, t, c, hM⟩ | ⟨e1, hM⟩
  · exact fin hM
  · exact fin hM
theorem gx_env (hx : GX M0 z g p O P K V F1 ns1 sf1 ef1 L cnt Ab0 Be0 C0 M Ab Be C) : Rnv M z (g + 10) Ab Be p O P K L ∧ (¬ mcS (g + 10) Ab Be (g + 1) ∧ g + 1 < mZ M) ∧ V ≤ 12 := by
  obtain ⟨h1, h2, h3, h4, h5, ⟨h61, h62, h63⟩, h7, h8, h9, h10⟩ := hx
  obtain ⟨p1, ⟨p2, p3, p4⟩, ⟨p5, p6⟩, p7, ⟨p8, p9⟩, p10, -⟩ := id h4
  obtain ⟨o1, o2, -, o4⟩ := p1.2.2.2.1
  obtain ⟨a1, a2, a3, a4⟩ := h3.2.2.2.2.2.1
  have zz := h3.2.2.2.2.2.2.1.1
  refine ⟨⟨p1, h5.2, ⟨by omega, h63, by omega, o4, a1, a2⟩, p2, p3, p4⟩, ⟨fun y => ?_, by omega⟩, p6⟩
  have y' : g + 1 = g + 10 ∨ g + 1 = g + 10 + 2 ∨ (g + 10 + 5 ≤ g + 1 ∧ g + 1 ≤ g + 10 + 9) ∨ g + 1 = Ab ∨ g + 1 = Be := y
  omega
theorem gst9.at {k : Nat} (st : gst9 M g V F ns W pl nq sm N nms k sg) (hv : vcn nms = V) : ∀ v, v < vcn nms → mI M (g + 1) ((mI M (g + 10) 4).toNat + v) = sg v := fun v hv' => by
  rw [st.1, Int.toNat_natCast]
  exact st.2.1 v (by omega)
theorem gst9.run {k : Nat} {r : Int} (st : gst9 M g V F ns W pl nq sm N nms k sg) (hx : GX M0 z g p O P K V F1 ns1 sf1 ef1 L cnt Ab0 Be0 C0 M Ab Be C) (q : grQ M0 z g p O P K V F1 ns1 sf1 ef1 L cnt Ab0 Be0 C0 M Ab Be r M') (hv : MVp (g + 10) (fvs W pl nq sm N sg nms.reverse) ns F M') : gst9 M' g V F ns W pl nq sm N nms k sg := by
  obtain ⟨-, -, -, Ab', Be', C', -, f, -, e4⟩ := q
  obtain ⟨ce, -⟩ := ga_ce hx f
  exact ⟨by rw [e4]; exact st.1, fun v hv => by rw [ce 1 (by omega)]; exact st.2.1 v hv, st.2.2.1, hv⟩
/-- a rule is worked out in a state -/
theorem x_Ga_run {k i j s : Nat} (hF : FMx G) (hx : GX M0 z g p O P K V F1 ns1 sf1 ef1 L cnt Ab0 Be0 C0 M Ab Be C) (cx : gcx M0 g p O P L V F Ab0 Be0 ns sf ef W pl nq sm N n nms) (st : gst9 M g V F ns W pl nq sm N nms k sg) (ru : RuC M0 O P L W pl nq sm n ns ef nms i j s) : Ci G y_Ma_run (d + 4) [vr (g + 10), vi s] M (fun r M' => grQ M0 z g p O P K V F1 ns1 sf1 ef1 L cnt Ab0 Be0 C0 M Ab Be r M' ∧ rnx (g + 10) (vlq W (cvs W pl nq sm N sg nms.reverse) pl 0 0 i j) r M' ∧ gst9 M' g V F ns W pl nq sm N nms k sg) := by
  obtain ⟨env, hU, V12⟩ := gx_env hx
  have F60 := cx.1.2.2.2.2
  obtain ⟨eO, eP⟩ := gx_O hx cx
  have ep := gx_p hx
  obtain ⟨-, hq, hn, fm, hrc, hvc⟩ := id cx
  have fm' := fm.cg (ep 6 (by omega)) (ep 7 (by omega)) (ep 8 (by omega)) eO eP
  obtain ⟨r, l, ec, e, u1, u2, u3, u4, u5, u6, u7, u8, u9⟩ := ru
  have hst := st.at hvc
  have rl : rcn nms = rcn r + rcn l := by rw [u1, rcn_app]
  have fr := fr_st (m := g + 10) (U := g + 1) (X := fun x => x < 60 ∧ 1 = 1) hq hn st.2.2.1 fm' (by omega) (by omega) hst (fun x hx => ⟨hx, rfl⟩)
  have lf := lf_st (m := g + 10) (U := g + 1) hq hn st.2.2.1 fm' u1 (by omega) (by omega) hst u5
  rw [hrc] at fr
  refine (x_Ma_runw (H := rcn r) (F0 := F) (by omega) hF hx.1 hx.2.2.1 hx.2.2.2.2.2.2.1 st.2.2.2 env F60 hU fr u6 lf u2 u4 (by rw [eO, eP]; exact u7) u8 (by rw [eO]; exact u9)).mono (fun r' M' k => ?_)
  obtain ⟨k1, k2, k3⟩ := k
  have q := gr_mk hx k1
  rw [vls_r u1 u2 u3 u4] at k2
  exact ⟨q, k2, st.run hx q k3⟩
theorem stq_cg {cv cv' : Nat → vrs} {lo hi : Nat → Int} : ∀ (l : List (Nat × Nat × Nat × Nat)) (nx : Nat → Int), (∀ q, q ∈ l → vlq W cv pl 0 0 q.2.1 q.2.2.1 = vlq W cv' pl 0 0 q.2.1 q.2.2.1) → stq9 W cv pl lo hi l nx = stq9 W cv' pl lo hi l nx
  | [], nx, _ => rfl
  | q :: l, nx, h => by
    rw [stq9, stq9, h q List.mem_cons_self]
    rw [stq_cg l _ (fun q' h' => h q' (List.mem_cons_of_mem _ h'))]
/-- a branch's sets are worked out in a state -/
theorem x_Ga_runs {k s : Nat} {l : List (Nat × Nat × Nat × Nat)} {nx : Nat → Int} (hF : FMx G) (hx : GX M0 z g p O P K V F1 ns1 sf1 ef1 L cnt Ab0 Be0 C0 M Ab Be C) (cx : gcx M0 g p O P L V F Ab0 Be0 ns sf ef W pl nq sm N n nms) (st : gst9 M g V F ns W pl nq sm N nms k sg) (ru : SeC M0 O P L V W pl nq sm n ns ef nms l s) (hnx : ∀ j, j < 12 → mI M (g + 12) j = nx j) : Ci G y_Ma_run (d + 4) [vr (g + 10), vi s] M (fun r M' => grQ M0 z g p O P K V F1 ns1 sf1 ef1 L cnt Ab0 Be0 C0 M Ab Be r M' ∧ ((r = 0 ∧ (stq9 W (cvs W pl nq sm N sg nms.reverse) pl (mI M0 (p + 3)) (mI M0 (p + 4)) l nx).1.1 ≠ 0 ∧ mI M' (g + 10) 1 = (stq9 W (cvs W pl nq sm N sg nms.reverse) pl (mI M0 (p + 3)) (mI M0 (p + 4)) l nx).1.1 ∧ mI M' (g + 10) 2 = (stq9 W (cvs W pl nq sm N sg nms.reverse) pl (mI M0 (p + 3)) (mI M0 (p + 4)) l nx).1.2) ∨ (r = 1 ∧ (stq9 W (cvs W pl nq sm N sg nms.reverse) pl (mI M0 (p + 3)) (mI M0 (p + 4)) l nx).1.1 = 0 ∧ ∀ j, j < 12 → mI M' (g + 12) j = (stq9 W (cvs W pl nq sm N sg nms.reverse) pl (mI M0 (p + 3)) (mI M0 (p + 4)) l nx).2 j)) ∧ gst9 M' g V F ns W pl nq sm N nms k sg) := by
  obtain ⟨env, hU, V12⟩ := gx_env hx
  have F60 := cx.1.2.2.2.2
  obtain ⟨eO, eP⟩ := gx_O hx cx
  have ep := gx_p hx
  obtain ⟨-, hq, hn, fm, hrc, hvc⟩ := id cx
  have fm' := fm.cg (ep 6 (by omega)) (ep 7 (by omega)) (ep 8 (by omega)) eO eP
  obtain ⟨r, l', e, u1, u2, u6, u7, u8, u9⟩ := ru
  have hst := st.at hvc
  have rl : rcn nms = rcn r + rcn l' := by rw [u1, rcn_app]
  have fr := fr_st (m := g + 10) (U := g + 1) (X := fun x => x < 60 ∧ 1 = 1) hq hn st.2.2.1 fm' (by omega) (by omega) hst (fun x hx => ⟨hx, rfl⟩)
  have lf := fun (ec : Nat → Int × Int) (u5 : LfC W nq sm n r ec) => lf_st (m := g + 10) (U := g + 1) hq hn st.2.2.1 fm' u1 (by omega) (by omega) hst u5
  rw [hrc] at fr
  have ecg := stq_cg (W := W) (pl := pl) (cv := cvs W pl nq sm N sg nms.reverse) (cv' := cvb W pl nq sm N sg n r.reverse) (lo := mI M0 (p + 3)) (hi := mI M0 (p + 4)) l nx (fun q hq' => (vls_r u1 (u2 q hq').1 (u2 q hq').2.1 (u2 q hq').2.2.1).symm)
  rw [ecg]
  refine (x_Ma_runt (Φ := LfC W nq sm n r) (H := rcn r) (F0 := F) (lo := mI M0 (p + 3)) (hi := mI M0 (p + 4)) (by omega) hF hx.1 hx.2.2.1 hx.2.2.2.2.2.2.1 st.2.2.2 env F60 hU fr u6 lf (fun v _ => by rw [ep 3 (by omega)]) (fun v _ => by rw [ep 4 (by omega)]) (fun q h' => ⟨(u2 q h').1, (u2 q h').2.2.1, by have := (u2 q h').2.2.2.1; omega, (u2 q h').2.2.2.2⟩) (by rw [eO, eP]; exact u7) u8 (by rw [eO]; exact u9) hnx).mono (fun r' M' k => ?_)
  obtain ⟨k1, k2, k3⟩ := k
  have q := gr_mk hx k1
  exact ⟨q, k2, st.run hx q k3⟩
theorem x_Ga_machineFault (hO : mOk M) (hk : mK M g = 7) (hr : mR M g 15 = g + 10) (hm : mK M (g + 10) = 5) : Ci G y_Ga_machineFault d [vr g] M (fun r M' => i32 r ∧ r = mI M (g + 10) 1 ∧ plQ M g M' ∧ mI M' g 10 = mI M (g + 10) 2) := by
  refine k_Ga_machineFault hO ⟨hk, by rw [hr]; exact hm, fun M3 e3 => ?_⟩
  have f3 : FI (fun x => x = g) M M3 := by rw [e3]; exact FI.ui rfl
  have o3 : mOk M3 := by rw [e3]; exact mOk_UI hO (hO _ _).1
  rw [f3.1, f3.2.2.1, hr]
  refine ⟨hm, (o3 _ _).1, by rw [f3.2.2.2.2.2.2 (g + 10) (show ¬ g + 10 = g by omega)], ⟨o3, f3, fun i hi => ?_⟩, by rw [mI_ui g 10 e3, if_pos ⟨rfl, rfl⟩, hr]⟩
  rw [mI_ui g i e3, if_neg (fun u => hi u.2)]
end GBA
end
