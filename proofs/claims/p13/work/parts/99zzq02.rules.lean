/-! The class's machine, exactly: formulas, a whole rule. -/
section QAG
variable {G : mG} {d z m U Ab0 Be0 C0 cc p O P K L F0 H s0 : Nat} {M0 : mM} {w E pl : Nat → Int} {cv : Nat → vrs} {ec : Nat → Int × Int} {fv : Nat → vrs} {ns : Nat → Int} {sf ef : Nat → Nat} {X : Nat → Prop}
/-- what a leaf's order pushes; formulas below H may stand there -/
def Lfq (M0 : mM) (p m U : Nat) (fv : Nat → vrs) (ns : Nat → Int) (H : Nat) (w E : Nat → Int) (cv : Nat → vrs) (ec : Nat → Int × Int) (k : Nat) : Prop := vgd (if w k = 12 ∨ w k = 13 ∨ (w k = 1 ∧ E k = 1) then 1 else 0) (cv k) ∧ (((ec k).1 = 3 ∧ cv k = (0, (ec k).2, 1)) ∨ ((ec k).1 = 4 ∧ ∃ x : Nat, (ec k).2 = x ∧ x < 60 ∧ (1 ≤ mI M0 (p + 7) x ∧ mI M0 (p + 7) x < 1000000000) ∧ cv k = (0, mI M0 (p + 6) x, mI M0 (p + 7) x)) ∨ ((ec k).1 = 5 ∧ ∃ x : Nat, (ec k).2 = x ∧ x < 12 ∧ cv k = (0, mI M0 U ((mI M0 m 4).toNat + x), 1)) ∨ ((ec k).1 = 7 ∧ ∃ x : Nat, (ec k).2 = x ∧ x < H ∧ ns x = 7 ∧ cv k = fv x))
/-- a formula: where its orders lie, and what it is worth -/
def Frq (M0 : mM) (p m U O P L : Nat) (pl w : Nat → Int) (fv : Nat → vrs) (ns : Nat → Int) (sf ef : Nat → Nat) (X : Nat → Prop) (x : Nat) : Prop := X x ∧ mI M0 (p + 8) x = sf x ∧ sf x < ef x ∧ ef x < L ∧ mI M0 O (ef x) = 0 ∧ (∀ y, y < x → ns y = 7 → ef y < sf x) ∧ ∃ (i j : Nat) (E : Nat → Int) (cv : Nat → vrs) (ec : Nat → Int × Int), Eo w 6 i j ∧ (fl w E pl 0 i j).1 = 0 ∧ Cd w ec pl (mI M0 O) (mI M0 P) 0 0 0 i j (sf x) (ef x) ∧ fv x = vlq w cv pl 0 0 i j ∧ ∀ k, (w k = 1 ∨ w k = 2 ∨ w k = 12 ∨ w k = 13) → (w k = 1 → E k ≠ -1) → Lfq M0 p m U fv ns x w E cv ec k
theorem lfq_rc {k : Nat} (hE : Rnv M0 z m Ab0 Be0 p O P K L) (hF0 : F0 ≤ 60) (hH : H ≤ F0) (hc : 1 ≤ H → cc ≤ 59) (hU : ¬ mcS m Ab0 Be0 U ∧ U < mZ M0) (hy : ∀ x, x < H → ns x = 7 → ef x < s0) (sub : ∀ x, x < H → ns x = 7 → Frq M0 p m U O P L pl w fv ns sf ef X x ∧ Rcv G d M0 z m U Ab0 Be0 C0 fv ns sf ef F0 X (cc + 1) x (sf x) (fv x) (sf x) (ef x)) (hl : Lfq M0 p m U fv ns H w E cv ec k) : vgd (if w k = 12 ∨ w k = 13 ∨ (w k = 1 ∧ E k = 1) then 1 else 0) (cv k) ∧ ∀ s, s < L → mI M0 O s = (ec k).1 → mI M0 P s = (ec k).2 → Rcv G d M0 z m U Ab0 Be0 C0 fv ns sf ef F0 X cc H s0 (cv k) s (s + 1) := by
  obtain ⟨g, hl⟩ := hl
  refine ⟨g, fun s hs o1 p1 => ?_⟩
  rcases hl with ⟨q1, q2⟩ | ⟨q1, x, q2, q3, q4, q5⟩ | ⟨q1, x, q2, q3, q4⟩ | ⟨q1, x, q2, q3, q4, q5⟩
  · rw [q2, ← p1]
    exact rcv_num hE hs (o1.trans q1)
  · rw [q5]
    exact rcv_cst hE hs (o1.trans q1) (p1.trans q2) q3 q4
  · rw [q4]
    exact rcv_var hE hs (o1.trans q1) (p1.trans q2) q3 hU
  · rw [q5]
    obtain ⟨⟨f1, f2, f3, f4, f5, -⟩, rc⟩ := sub x q3 q4
    exact rcv_frm hE hs (o1.trans q1) (p1.trans q2) q4 (by omega) hF0 q3 (hc (by omega)) f1 f2 f3 f4 f5 (hy x q3 q4) rc
theorem frm_rc (hF : FMx G) (hE : Rnv M0 z m Ab0 Be0 p O P K L) (hF0 : F0 ≤ 60) (hU : ¬ mcS m Ab0 Be0 U ∧ U < mZ M0) (fr : ∀ x, x < F0 → ns x = 7 → Frq M0 p m U O P L pl w fv ns sf ef X x) : ∀ x, x < F0 → ns x = 7 → ∀ cc, cc + x ≤ 60 → Rcv G d M0 z m U Ab0 Be0 C0 fv ns sf ef F0 X cc x (sf x) (fv x) (sf x) (ef x) := by
  intro x
  induction x using Nat.strongRecOn with
  | ind x ih =>
    intro hx h7 cc hcc
    obtain ⟨-, -, fse, feL, -, fy, i, j, E, cv, ec, eo, hfl, hcd, ev, lf⟩ := fr x hx h7
    rw [ev]
    exact run_allv hF hE (fun k h1 h2 => lfq_rc hE hF0 (by omega) (fun u => by omega) hU fy (fun y hy hy7 => ⟨fr y (by omega) hy7, ih y hy (by omega) hy7 (cc + 1) (by omega)⟩) (lf k h1 h2)) _ 0 i j (Nat.le_refl _) (Or.inl ⟨rfl, eo⟩) hfl (fun u => absurd u (by decide)) 0 0 0 (sf x) (ef x) (fun u => absurd u (by decide)) hcd (by omega)
theorem x_Ma_runv {i j s e : Nat} (hF : FMx G) (ok : mOk M0) (hk : MK M0 z m U Ab0 Be0 C0) (hT : MT M0 m X) (hV : MVp m fv ns F0 M0) (hE : Rnv M0 z m Ab0 Be0 p O P K L) (hF0 : F0 ≤ 60) (hU : ¬ mcS m Ab0 Be0 U ∧ U < mZ M0) (fr : ∀ x, x < F0 → ns x = 7 → Frq M0 p m U O P L pl w fv ns sf ef X x) (hy : ∀ x, x < F0 → ns x = 7 → ef x < s) (hlf : ∀ k, (w k = 1 ∨ w k = 2 ∨ w k = 12 ∨ w k = 13) → (w k = 1 → E k ≠ -1) → Lfq M0 p m U fv ns F0 w E cv ec k) (eo : Eo w 6 i j) (hf : (fl w E pl 0 i j).1 = 0) (hc : Cd w ec pl (mI M0 O) (mI M0 P) 0 0 0 i j s e) (he : e < L) (oe : mI M0 O e = 0) : Ci G y_Ma_run (d + 4) [vr m, vi s] M0 (fun r M' => rnQ M0 z m U Ab0 Be0 C0 X 1 r M' ∧ rnx m (vlq w cv pl 0 0 i j) r M' ∧ MVp m fv ns F0 M') := by
  have c64 := hk.2.2.2.2.2.2.2
  have hLn := hE.2.2.2.2.2
  have lse := hc.lt
  refine k_Ma_run ok (i32s (by omega) (by omega)) ⟨hk.1, fun M2 e2 M4 e4 => ?_⟩
  have f2 : FI (fun b => b = m) M0 M2 := by rw [e2]; exact FI.ui rfl
  have f4 : FI (fun b => b = m) M2 M4 := by rw [e4]; exact FI.ui rfl
  have ff := f2.trans f4
  have g : ∀ i, mI M4 m i = if i = 15 then 0 else if i = 8 then 0 else mI M0 m i := fun i => by
    rw [mI_ui m i e4]
    by_cases y : i = 15
    · rw [if_pos ⟨rfl, y⟩, if_pos y]
    · rw [if_neg (fun q => y q.2), if_neg y, mI_ui m i e2]
      by_cases y8 : i = 8
      · rw [if_pos ⟨rfl, y8⟩, if_pos y8]
      · rw [if_neg (fun q => y8 q.2), if_neg y8]
  have o4 : mOk M4 := by rw [e4]; exact mOk_UI (by rw [e2]; exact mOk_UI ok (i32s (by omega) (by omega))) (i32s (by omega) (by omega))
  have hM : MS M0 z m U Ab0 Be0 C0 M4 0 0 := ms_step (M := M0) (t' := 0) (c' := 0) o4 hk FA.refl ⟨Or.inl rfl, Or.inl rfl⟩ ⟨rfl, Nat.le_refl _⟩ ⟨rfl, rfl, rfl⟩ (ff.mono (fun _ q => Or.inl q)) (by rw [g, if_neg (by decide), if_neg (by decide)]) (by rw [g, if_neg (by decide), if_neg (by decide)]) (by rw [g, if_neg (by decide), if_pos rfl]; rfl) (by omega) (fun j hj => absurd hj (by omega)) (by rw [g, if_pos rfl]; rfl)
  have hb : mtq m M0 M4 := mtq.fi ff
  have g9 : mI M4 m 9 = mI M0 m 9 := by rw [g, if_neg (by decide), if_neg (by decide)]
  have hT4 : MT M4 m X := hT.mtb hb.mtb g9
  have hv4 : MSv M0 z m U Ab0 Be0 C0 fv ns F0 X M4 0 0 := ⟨hM, fun x hx h7 u => by
    rw [hb (m + 5) (by omega), g9] at u
    rw [hb (m + 6) (by omega), hb (m + 7) (by omega)]
    exact hV x hx h7 u, hT4⟩
  have pt := ptl_le (m := m) (sf := sf) (ef := ef) (M := M4) (fun x hx h7 => by
    have := (fr x hx h7).2.2.2.1
    omega) F0 (Nat.le_refl _)
  refine run_allv (cv := cv) (H := F0) (s0 := s) hF hE (fun k h1 h2 => lfq_rc hE hF0 (Nat.le_refl _) (fun _ => by decide) hU hy (fun x hx h7 => ⟨fr x hx h7, frm_rc hF hE hF0 hU fr x hx h7 1 (by omega)⟩) (hlf k h1 h2)) _ 0 i j (Nat.le_refl _) (Or.inl ⟨rfl, eo⟩) hf (fun u => absurd u (by decide)) 0 0 0 s e (fun u => absurd u (by decide)) hc (by omega) 0 0 M4 _ (by omega) (by omega) hv4 (fun M' i' z1 l1 h1 b1 _ t1 => ?_) (fun M' z1 e1 e2 h1 b1 => ?_)
  · exact run_end hE he (by omega) h1.1 oe ⟨⟨h1.2.2, Or.inr ⟨rfl, h1.1⟩⟩, Or.inr ⟨rfl, z1, t1⟩, h1.2.1⟩
  · obtain ⟨t2, c2, h2⟩ := h1
    exact ⟨⟨b1.2, Or.inl ⟨rfl, by rw [e1]; exact z1, t2, c2, h2⟩⟩, Or.inl ⟨rfl, z1, e1, e2⟩, b1.1⟩
end QAG
