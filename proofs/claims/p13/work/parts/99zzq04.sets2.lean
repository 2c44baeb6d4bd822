/-! The class's machine, exactly: all sets of a branch. -/
section QAI
variable {G : mG} {d z m U Ab0 Be0 C0 cc p O P K L F0 H s0 : Nat} {M0 : mM} {w E pl lo hi : Nat → Int} {cv : Nat → vrs} {ec : Nat → Int × Int} {fv : Nat → vrs} {ns : Nat → Int} {sf ef : Nat → Nat} {X : Nat → Prop}
/-- the orders of sets: the var, its rule from i to j, the word whose place a fault tells -/
def Scd (w : Nat → Int) (ec : Nat → Int × Int) (pl : Nat → Int) (O P : Nat → Int) : List (Nat × Nat × Nat × Nat) → Nat → Nat → Prop
  | [], s, e => s = e
  | q :: r, s, e => ∃ a : Nat, Cd w ec pl O P 0 0 0 q.2.1 q.2.2.1 s a ∧ O a = 43 ∧ P a = pl q.2.2.2 * 16 + (q.1 : Int) ∧ Scd w ec pl O P r (a + 1) e
/-- what sets make of the next state, and the first fault -/
noncomputable def stq9 (w : Nat → Int) (cv : Nat → vrs) (pl lo hi : Nat → Int) : List (Nat × Nat × Nat × Nat) → (Nat → Int) → (Int × Int) × (Nat → Int)
  | [], nx => ((0, 0), nx)
  | q :: r, nx => if (vlq w cv pl 0 0 q.2.1 q.2.2.1).1 ≠ 0 then (((vlq w cv pl 0 0 q.2.1 q.2.2.1).1, (vlq w cv pl 0 0 q.2.1 q.2.2.1).2.1), nx) else if (stfq (vlq w cv pl 0 0 q.2.1 q.2.2.1).2.1 (vlq w cv pl 0 0 q.2.1 q.2.2.1).2.2 (lo q.1) (hi q.1) (pl q.2.2.2)).1 ≠ 0 then (stfq (vlq w cv pl 0 0 q.2.1 q.2.2.1).2.1 (vlq w cv pl 0 0 q.2.1 q.2.2.1).2.2 (lo q.1) (hi q.1) (pl q.2.2.2), nx) else stq9 w cv pl lo hi r (fun j => if j = q.1 then (vlq w cv pl 0 0 q.2.1 q.2.2.1).2.1 else nx j)
theorem MSv.ofb {M M' : mM} {t t' c : Nat} (h : MSv M0 z m U Ab0 Be0 C0 fv ns F0 X M t c) (k : MS M0 z m U Ab0 Be0 C0 M' t' c) (b : mtb m M M') : MSv M0 z m U Ab0 Be0 C0 fv ns F0 X M' t' c ∧ ptl m ns sf ef M' H = ptl m ns sf ef M H := by
  have e9 : mI M' m 9 = mI M m 9 := by rw [k.nine, h.1.nine]
  refine ⟨⟨k, fun x hx h7 u => ?_, h.2.2.mtb b e9⟩, ptl_cg e9 H (fun x _ => by rw [b (m + 5) (by omega) (by omega)])⟩
  rw [b (m + 5) (by omega) (by omega), e9] at u
  rw [b (m + 6) (by omega) (by omega), b (m + 7) (by omega) (by omega)]
  exact h.2.1 x hx h7 u
theorem Scd.le : ∀ (l : List (Nat × Nat × Nat × Nat)) {s e : Nat}, Scd w ec pl (mI M0 O) (mI M0 P) l s e → s ≤ e
  | [], _, _, h => Nat.le_of_eq h
  | q :: r, s, e, h => by
    obtain ⟨a, c1, -, -, c2⟩ := h
    have l1 := c1.lt
    have l2 := Scd.le r c2
    omega
theorem run_sts (hF : FMx G) (hE : Rnv M0 z m Ab0 Be0 p O P K L) (hF0 : F0 ≤ 60) (hU : ¬ mcS m Ab0 Be0 U ∧ U < mZ M0) (fr : ∀ x, x < F0 → ns x = 7 → Frq M0 p m U O P L pl w fv ns sf ef X x) (hy : ∀ x, x < F0 → ns x = 7 → ef x < s0) (hlf : ∀ k, (w k = 1 ∨ w k = 2 ∨ w k = 12 ∨ w k = 13) → (w k = 1 → E k ≠ -1) → Lfq M0 p m U fv ns F0 w E cv ec k) (elo : ∀ v, v < 12 → lo v = mI M0 (p + 3) v) (ehi : ∀ v, v < 12 → hi v = mI M0 (p + 4) v) {Q : Int → mM → Prop} : ∀ (l : List (Nat × Nat × Nat × Nat)) (s e i : Nat) (M : mM) (nx : Nat → Int), (∀ q, q ∈ l → Eo w 6 q.2.1 q.2.2.1 ∧ (fl w E pl 0 q.2.1 q.2.2.1).1 = 0 ∧ q.1 < 12 ∧ 0 ≤ pl q.2.2.2 ∧ pl q.2.2.2 ≤ 16384) → Scd w ec pl (mI M0 O) (mI M0 P) l s e → e < L → mI M0 O e = 0 → s0 ≤ s → i + (e - s) + ptl m ns sf ef M F0 < 1000000 → MSv M0 z m U Ab0 Be0 C0 fv ns F0 X M 0 0 → (∀ j, j < 12 → mI M (m + 2) j = nx j) →
  ((stq9 w cv pl lo hi l nx).1.1 = 0 → ∀ M', MSv M0 z m U Ab0 Be0 C0 fv ns F0 X M' 0 0 → (∀ j, j < 12 → mI M' (m + 2) j = (stq9 w cv pl lo hi l nx).2 j) → Q 1 M') →
  ((stq9 w cv pl lo hi l nx).1.1 ≠ 0 → ∀ M', mI M' m 1 = (stq9 w cv pl lo hi l nx).1.1 → mI M' m 2 = (stq9 w cv pl lo hi l nx).1.2 → (∃ t2 c2, MS M0 z m U Ab0 Be0 C0 M' t2 c2) → (MVp m fv ns F0 M' ∧ MT M' m X) → Q 0 M') → h_Ma_run_14 G (d + 3) m (s : Int) (i : Int) M Q := by
  have hL := hE.2.2.2.2.2
  intro l
  induction l with
  | nil =>
    intro s e i M nx _ hc he oe _ hi hM hn next _
    have hc : s = e := hc
    subst hc
    exact run_end hE he (by omega) hM.1 oe (next rfl M hM hn)
  | cons q r ih =>
    intro s e i M nx hq hc he oe hs0 hi hM hn next flt
    obtain ⟨q1, q2, q3, q4, q5⟩ := hq q List.mem_cons_self
    have cl := Scd.le _ hc
    obtain ⟨a, c1, o1, p1, c2⟩ := hc
    have l1 := c1.lt
    have l2 := Scd.le _ c2
    rw [stq9] at next flt
    have rc : Rcv G d M0 z m U Ab0 Be0 C0 fv ns sf ef F0 X 0 F0 s0 (vlq w cv pl 0 0 q.2.1 q.2.2.1) s a := run_allv hF hE (fun k h1 h2 => lfq_rc hE hF0 (Nat.le_refl _) (fun _ => by decide) hU hy (fun x hx h7 => ⟨fr x hx h7, frm_rc hF hE hF0 hU fr x hx h7 1 (by omega)⟩) (hlf k h1 h2)) _ 0 q.2.1 q.2.2.1 (Nat.le_refl _) (Or.inl ⟨rfl, q1⟩) q2 (fun u => absurd u (by decide)) 0 0 0 s a (fun u => absurd u (by decide)) c1 (by omega)
    generalize vlq w cv pl 0 0 q.2.1 q.2.2.1 = v at rc next flt
    refine rc 0 i M Q (by omega) (by omega) hM (fun M1 i1 z1 b1 h1 k1 _ t1 => ?_) (fun M1 z1 e1 e2 h1 b1 => ?_)
    · rw [if_neg (show ¬ v.1 ≠ 0 from fun u => u z1), elo q.1 q3, ehi q.1 q3] at next flt
      refine run_set hE (by omega) (by omega) h1.1 o1 p1 q3 ⟨q4, q5⟩ t1 (fun z2 M2 h2 b2 _ n2 => ?_) (fun z2 M2 e1 e2 h2 b2 => ?_)
      · obtain ⟨h2', v2⟩ := h1.ofb (H := F0) (sf := sf) (ef := ef) h2 b2
        rw [if_neg (fun u => u z2)] at next flt
        refine ih (a + 1) e (i1 + 1) M2 _ (fun q' h' => hq q' (List.mem_cons_of_mem _ h')) c2 he oe (by omega) (by omega) h2' (fun j hj => ?_) next flt
        rw [n2 j, k1.2.2, hn j hj]
      · obtain ⟨h2', -⟩ := h1.ofb (H := F0) (sf := sf) (ef := ef) h2 b2
        rw [if_pos z2] at flt
        exact flt z2 M2 e1 e2 ⟨_, _, h2⟩ h2'.2
    · rw [if_pos z1] at flt
      exact flt z1 M1 e1 e2 h1 b1
/-- a branch's sets -/
theorem x_Ma_runs {s e : Nat} {l : List (Nat × Nat × Nat × Nat)} {nx : Nat → Int} (hF : FMx G) (ok : mOk M0) (hk : MK M0 z m U Ab0 Be0 C0) (hT : MT M0 m X) (hV : MVp m fv ns F0 M0) (hE : Rnv M0 z m Ab0 Be0 p O P K L) (hF0 : F0 ≤ 60) (hU : ¬ mcS m Ab0 Be0 U ∧ U < mZ M0) (fr : ∀ x, x < F0 → ns x = 7 → Frq M0 p m U O P L pl w fv ns sf ef X x) (hy : ∀ x, x < F0 → ns x = 7 → ef x < s) (hlf : ∀ k, (w k = 1 ∨ w k = 2 ∨ w k = 12 ∨ w k = 13) → (w k = 1 → E k ≠ -1) → Lfq M0 p m U fv ns F0 w E cv ec k) (elo : ∀ v, v < 12 → lo v = mI M0 (p + 3) v) (ehi : ∀ v, v < 12 → hi v = mI M0 (p + 4) v) (hq : ∀ q, q ∈ l → Eo w 6 q.2.1 q.2.2.1 ∧ (fl w E pl 0 q.2.1 q.2.2.1).1 = 0 ∧ q.1 < 12 ∧ 0 ≤ pl q.2.2.2 ∧ pl q.2.2.2 ≤ 16384) (hc : Scd w ec pl (mI M0 O) (mI M0 P) l s e) (he : e < L) (oe : mI M0 O e = 0) (hn : ∀ j, j < 12 → mI M0 (m + 2) j = nx j) : Ci G y_Ma_run (d + 4) [vr m, vi s] M0 (fun r M' => rnQ M0 z m U Ab0 Be0 C0 X 0 r M' ∧ ((r = 0 ∧ (stq9 w cv pl lo hi l nx).1.1 ≠ 0 ∧ mI M' m 1 = (stq9 w cv pl lo hi l nx).1.1 ∧ mI M' m 2 = (stq9 w cv pl lo hi l nx).1.2) ∨ (r = 1 ∧ (stq9 w cv pl lo hi l nx).1.1 = 0 ∧ ∀ j, j < 12 → mI M' (m + 2) j = (stq9 w cv pl lo hi l nx).2 j)) ∧ MVp m fv ns F0 M') := by
  have lse := Scd.le _ hc
  have c64 := hk.2.2.2.2.2.2.2
  have hLn := hE.2.2.2.2.2
  refine k_Ma_run ok (i32s (by omega) (by omega)) ⟨hk.1, fun M2 e2 M4 e4 => ?_⟩
  have f2 : FI (fun b => b = m) M0 M2 := by rw [e2]; exact FI.ui rfl
  have f4 : FI (fun b => b = m) M2 M4 := by rw [e4]; exact FI.ui rfl
  have ff := f2.trans f4
  have g : ∀ i, mI M4 m i = if i = 15 then 0 else if i = 8 then 0 else mI M0 m i := fun i => by
    rw [mI_ui m i e4]
    by_cases y : i = 15
    · rw [if_pos ⟨rfl, y⟩, if_pos y]
    · rw [if_neg (fun q => y q.2), if_neg y, mI_ui m i e2]
      by_cases y8 : i = 8
      · rw [if_pos ⟨rfl, y8⟩, if_pos y8]
      · rw [if_neg (fun q => y8 q.2), if_neg y8]
  have o4 : mOk M4 := by rw [e4]; exact mOk_UI (by rw [e2]; exact mOk_UI ok (i32s (by omega) (by omega))) (i32s (by omega) (by omega))
  have hM : MS M0 z m U Ab0 Be0 C0 M4 0 0 := ms_step (M := M0) (t' := 0) (c' := 0) o4 hk FA.refl ⟨Or.inl rfl, Or.inl rfl⟩ ⟨rfl, Nat.le_refl _⟩ ⟨rfl, rfl, rfl⟩ (ff.mono (fun _ q => Or.inl q)) (by rw [g, if_neg (by decide), if_neg (by decide)]) (by rw [g, if_neg (by decide), if_neg (by decide)]) (by rw [g, if_neg (by decide), if_pos rfl]; rfl) (by omega) (fun j hj => absurd hj (by omega)) (by rw [g, if_pos rfl]; rfl)
  have hb : mtq m M0 M4 := mtq.fi ff
  have g9 : mI M4 m 9 = mI M0 m 9 := by rw [g, if_neg (by decide), if_neg (by decide)]
  have hT4 : MT M4 m X := hT.mtb hb.mtb g9
  have hv4 : MSv M0 z m U Ab0 Be0 C0 fv ns F0 X M4 0 0 := ⟨hM, fun x hx h7 u => by
    rw [hb (m + 5) (by omega), g9] at u
    rw [hb (m + 6) (by omega), hb (m + 7) (by omega)]
    exact hV x hx h7 u, hT4⟩
  have pt := ptl_le (m := m) (sf := sf) (ef := ef) (M := M4) (fun x hx h7 => by
    have := (fr x hx h7).2.2.2.1
    omega) F0 (Nat.le_refl _)
  refine run_sts (cv := cv) (s0 := s) hF hE hF0 hU fr hy hlf elo ehi l s e 0 M4 nx hq hc he oe (Nat.le_refl _) (by omega) hv4 (fun j hj => by rw [hb (m + 2) (Or.inl rfl)]; exact hn j hj) (fun z1 M' h1 n1 => ?_) (fun z1 M' e1 e2 h1 b1 => ?_)
  · exact ⟨⟨h1.2.2, Or.inr ⟨rfl, h1.1⟩⟩, Or.inr ⟨rfl, z1, n1⟩, h1.2.1⟩
  · obtain ⟨t2, c2, h2⟩ := h1
    exact ⟨⟨b1.2, Or.inl ⟨rfl, by rw [e1]; exact z1, t2, c2, h2⟩⟩, Or.inl ⟨rfl, z1, e1, e2⟩, b1.1⟩
end QAI
