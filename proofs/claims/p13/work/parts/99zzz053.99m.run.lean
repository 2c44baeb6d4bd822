/-! The reference: the jobs of a node's parts. -/
def flat (n : Int) : List (Nat × Nat) → List Int
  | [] => []
  | (i, j) :: rs => (j : Int) :: (i : Int) :: n :: flat n rs
def rsum : List (Nat × Nat) → Nat
  | [] => 0
  | (i, j) :: rs => (j - i) + rsum rs
theorem flat_len {n : Int} : ∀ rs, (flat n rs).length = 3 * rs.length
  | [] => rfl
  | (i, j) :: rs => by show (flat n rs).length + 1 + 1 + 1 = 3 * (rs.length + 1); rw [flat_len rs]; omega
section RN
variable {G : mG} {d a N g T : Nat} {M M2 M3 : mM} {root : Int} {Q : Int → mM → Prop}
theorem Lk.mono {T T' f x l : Nat} (h : Lk M2 g T f x l) (hT : T ≤ T') (hn : ∀ n, n < T → np M3 g n = np M2 g n) : Lk M3 g T' f x l := by
  induction f generalizing x with
  | zero => exact h.elim
  | succ f ih =>
    obtain ⟨h0, h⟩ := h
    refine ⟨by omega, ?_⟩
    rw [hn x h0]
    rcases h with h | ⟨y, h1, h2⟩
    · exact Or.inl h
    · exact Or.inr ⟨y, h1, ih h2⟩
theorem chn.mono {T T' : Nat} {p : Int} (h : chn M2 g T p) (hp : p < T) (hT : T ≤ T') (hf : ∀ n, n < T → fp M3 g n = fp M2 g n ∧ np M3 g n = np M2 g n) : chn M3 g T' p := fun p0 => by
  rw [(hf p.toNat (by omega)).1]
  rcases h p0 with q | ⟨f, c, l, q1, q2⟩
  · exact Or.inl q
  · exact Or.inr ⟨f, c, l, q1, q2.mono hT (fun n hn => (hf n hn).2)⟩
theorem JE.pre {M1 : mM} {T : Nat} {p : Int} (h : JE M2 M3 g T p) (hp : p < T) (s : ∀ n, n < T → so M2 g n = so M1 g n ∧ va M2 g n = va M1 g n ∧ fp M2 g n = fp M1 g n ∧ np M2 g n = np M1 g n) : JE M1 M3 g T p := by
  refine ⟨fun n hn => ⟨(h.1 n hn).1.trans (s n hn).1, (h.1 n hn).2.trans (s n hn).2.1⟩, ?_⟩
  rcases h.2 with ⟨q1, q2⟩ | ⟨q0, q1, q2, q3⟩ | ⟨q0, f, c, l, q1, q2, q3, q4⟩
  · exact Or.inl ⟨q1, fun n hn => ⟨(q2 n hn).1.trans (s n hn).2.2.1, (q2 n hn).2.trans (s n hn).2.2.2⟩⟩
  · exact Or.inr (Or.inl ⟨q0, by rw [← (s p.toNat (by omega)).2.2.1]; exact q1, fun n hn => by rw [q2 n hn, (s n hn).2.2.1], fun n hn => (q3 n hn).trans (s n hn).2.2.2⟩)
  · exact Or.inr (Or.inr ⟨q0, f, c, l, by rw [← (s p.toNat (by omega)).2.2.1]; exact q1, q2.mono (Nat.le_refl _) (fun n hn => (s n hn).2.2.2.symm), fun n hn => (q3 n hn).trans (s n hn).2.2.1, fun n hn => by rw [q4 n hn, (s n hn).2.2.2]⟩)
theorem JE.post {M4 : mM} {T : Nat} {p : Int} (h : JE M2 M3 g T p) (s : ∀ n, n < T → so M4 g n = so M3 g n ∧ va M4 g n = va M3 g n ∧ fp M4 g n = fp M3 g n ∧ np M4 g n = np M3 g n) : JE M2 M4 g T p := by
  refine ⟨fun n hn => ⟨(s n hn).1.trans (h.1 n hn).1, (s n hn).2.1.trans (h.1 n hn).2⟩, ?_⟩
  rcases h.2 with ⟨q1, q2⟩ | ⟨q0, q1, q2, q3⟩ | ⟨q0, f, c, l, q1, q2, q3, q4⟩
  · exact Or.inl ⟨q1, fun n hn => ⟨(s n hn).2.2.1.trans (q2 n hn).1, (s n hn).2.2.2.trans (q2 n hn).2⟩⟩
  · exact Or.inr (Or.inl ⟨q0, q1, fun n hn => (s n hn).2.2.1.trans (q2 n hn), fun n hn => (s n hn).2.2.2.trans (q3 n hn)⟩)
  · exact Or.inr (Or.inr ⟨q0, f, c, l, q1, q2, fun n hn => (s n hn).2.2.1.trans (q3 n hn), fun n hn => (s n hn).2.2.2.trans (q4 n hn)⟩)
/-- a job is taken -/
theorem TI.tk {st : List Int} {x y : Int} (h : TI M a g N T (x :: st) M2) (t : tkQ M2 (a + 91) y M3) : TI M a g N T st M3 ∧ y = x ∧ sameT M2 M3 g := by
  have w := h.2.1.1.1
  have hg := h.2.2.2.2.2
  have m := mv_take w n91 t
  obtain ⟨k1, k2, k3⟩ := h.wx m (fun q hq => Or.inr hq)
  obtain ⟨s1, s2⟩ := h.2.2.2.2.1.take t
  have sm : ∀ q, tL g q → sameN M2 M3 q := fun q hq => m.lst (tL_in hg hq) (fun z => by rw [z] at hq; exact (tL_no hg w).2.2.2.2 hq)
  refine ⟨⟨k1, k2, k3, fun q hq => by rw [(sm q hq).1]; exact h.2.2.2.1 q hq, s1, hg⟩, s2, fun n => ⟨(sm _ (by omega)).2.1 n, (sm _ (by omega)).2.1 n, (sm _ (by omega)).2.1 n, (sm _ (by omega)).2.1 n⟩⟩
/-- a new node, not yet joined -/
theorem TI.nd {st : List Int} (h : TI M a g N T st M2) (m : Mv (tL g) (fun _ => False) M2 a M3) (hn : nd M3 g (T + 1)) : TI M a g N (T + 1) st M3 := by
  have w := h.2.1.1.1
  have hg := h.2.2.2.2.2
  obtain ⟨k1, k2, k3⟩ := h.wx m (fun q hq => Or.inl hq)
  exact ⟨k1, k2, k3, hn, h.2.2.2.2.1.same (m.lst n91 (fun z => (tL_no hg w).2.2.2.2 z)), hg⟩
/-- joined -/
theorem nj {st : List Int} {p : Int} {M6 M7 : mM} (hp : p < T) (hc : chn M2 g T p) (ho : ∀ n, n < T → so M6 g n = so M2 g n ∧ va M6 g n = va M2 g n ∧ fp M6 g n = fp M2 g n ∧ np M6 g n = np M2 g n) (hf : fp M6 g T = -1) (hn : np M6 g T = -1) (j : jnQ M6 g (T + 1) p T M7) : JE M2 M7 g T p ∧ fp M7 g T = -1 ∧ np M7 g T = -1 ∧ so M7 g T = so M6 g T ∧ va M7 g T = va M6 g T := by
  obtain ⟨j1, j2⟩ := j
  rcases j2 with ⟨q1, q2⟩ | ⟨q0, q1, q2, q3⟩ | ⟨q0, f, c, l, q1, q2, q3, q4⟩
  · refine ⟨⟨fun n hn => ⟨(j1 n).1.trans (ho n hn).1, (j1 n).2.trans (ho n hn).2.1⟩, Or.inl ⟨q1, fun n hn => ⟨(q2 n).1.trans (ho n hn).2.2.1, (q2 n).2.trans (ho n hn).2.2.2⟩⟩⟩, by rw [(q2 T).1]; exact hf, by rw [(q2 T).2]; exact hn, (j1 T).1, (j1 T).2⟩
  · refine ⟨⟨fun n hn => ⟨(j1 n).1.trans (ho n hn).1, (j1 n).2.trans (ho n hn).2.1⟩, Or.inr (Or.inl ⟨q0, by rw [← (ho p.toNat (by omega)).2.2.1]; exact q1, fun n hn => by rw [q2 n, (ho n hn).2.2.1], fun n hn => (q3 n).trans (ho n hn).2.2.2⟩)⟩, by rw [q2 T, if_neg (by omega)]; exact hf, by rw [q3 T]; exact hn, (j1 T).1, (j1 T).2⟩
  · -- the chain was there before the node
    have hcc := hc q0
    rw [← (ho p.toNat (by omega)).2.2.1, q1] at hcc
    obtain ⟨f0, c0, l0, k1, k2⟩ : ∃ f c' l : Nat, (c : Int) = c' ∧ Lk M2 g T f c' l := by
      rcases hcc with z | z
      · omega
      · exact z
    have ec : c0 = c := by omega
    subst ec
    have k3 : Lk M6 g (T + 1) f0 c0 l0 := k2.mono (by omega) (fun n hn => (ho n hn).2.2.2)
    have el := Lk.det q2 k3
    subst el
    have hlT := k2.lt
    refine ⟨⟨fun n hn => ⟨(j1 n).1.trans (ho n hn).1, (j1 n).2.trans (ho n hn).2.1⟩, Or.inr (Or.inr ⟨q0, f0, c0, l, by rw [← (ho p.toNat (by omega)).2.2.1]; exact q1, k2, fun n hn => (q3 n).trans (ho n hn).2.2.1, fun n hn => by rw [q4 n, (ho n hn).2.2.2]⟩)⟩, by rw [q3 T]; exact hf, by rw [q4 T, if_neg (by omega)]; exact hn, (j1 T).1, (j1 T).2⟩
/-- a node with its parts -/
theorem nd_fin {M7 M8 M9 : mM} {p : Int} {k T9 : Nat} (hpT : p < T) (je : JE M2 M7 g T p) (s78 : sameT M7 M8 g) (hf7 : fp M7 g T = -1) (hn7 : np M7 g T = -1) (je9 : JE M8 M9 g (T + 1) (T : Int)) (hk : 1 ≤ k) (ha : ari (so M7 g T) k) (to : To (nmw (wk M a) N) M9 g k (T + 1) T9) : JE M2 M9 g T p ∧ To (nmw (wk M a) N) M9 g 0 T T9 ∧ np M9 g T = -1 := by
  have c2 : fp M9 g T = ((T + 1 : Nat) : Int) ∧ (∀ n, n < T → fp M9 g n = fp M8 g n) ∧ ∀ n, n < T + 1 → np M9 g n = np M8 g n := by
    rcases je9.2 with ⟨q, -⟩ | ⟨q0, q1, q2, q3⟩ | ⟨q0, f, c, l, q1, q2, q3, q4⟩
    · omega
    · refine ⟨by rw [q2 T (by omega), if_pos (by omega)], fun n hn => by rw [q2 n (by omega), if_neg (by omega)], q3⟩
    · exfalso
      rw [Int.toNat_natCast, (s78 T).2.2.1, hf7] at q1
      omega
  refine ⟨je.post (fun n hn => ⟨(je9.1 n (by omega)).1.trans (s78 n).1, (je9.1 n (by omega)).2.trans (s78 n).2.1, (c2.2.1 n hn).trans (s78 n).2.2.1, (c2.2.2 n (by omega)).trans (s78 n).2.2.2⟩), To.node hk ?_ c2.1 to, ?_⟩
  · rw [(je9.1 T (by omega)).1, (s78 T).1]
    exact ha
  · rw [c2.2.2 T (by omega), (s78 T).2.2.2]
    exact hn7
end RN
