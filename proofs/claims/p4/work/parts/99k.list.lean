/-! The reference: the parts of a list. -/
section LI
variable {w : Nat → Int}
/-- x stands nowhere outside parentheses -/
def Nx (w : Nat → Int) (x : Int) (i l : Nat) : Prop := ∀ m, m < l → dp w i m = 0 → w (i + m) ≠ x
theorem Nx.join {x : Int} {i a b : Nat} (b1 : dp w i a = 0) (h1 : Nx w x i a) (h2 : Nx w x (i + a + 1) b) (h36 : w (i + a) ≠ 36) (h37 : w (i + a) ≠ 37) (hx : w (i + a) ≠ x) : Nx w x i (a + 1 + b) := by
  have d1 : dp w i (a + 1) = 0 := by rw [dp_s, if_neg h36, if_neg h37, b1]; omega
  have e : i + (a + 1) = i + a + 1 := by omega
  intro m hm q
  by_cases z : m < a
  · exact h1 m z q
  · by_cases y : m = a
    · rw [y]; exact hx
    · have k := h2 (m - (a + 1)) (by omega)
      rw [show i + a + 1 + (m - (a + 1)) = i + m by omega] at k
      refine k ?_
      rw [show m = (a + 1) + (m - (a + 1)) by omega, dp_app, d1, e] at q
      omega
theorem Nx.mid {x : Int} {i m j : Nat} (b1 : Bl w i (m - i)) (hm : i < m) (hj : m + 1 < j) (h1 : Nx w x i (m - i)) (h2 : Nx w x (m + 1) (j - (m + 1))) (h36 : w m ≠ 36) (h37 : w m ≠ 37) (hx : w m ≠ x) : Nx w x i (j - i) := by
  have em : i + (m - i) = m := by omega
  rw [show j - i = (m - i) + 1 + (j - (m + 1)) by omega]
  exact Nx.join b1.1 h1 (by rw [em]; exact h2) (by rw [em]; exact h36) (by rw [em]; exact h37) (by rw [em]; exact hx)
theorem ex_nc : ∀ {n c i j : Nat}, c ≤ 6 → Ex w n c i j → Nx w 35 i (j - i) := by
  intro n
  induction n with
  | zero => intro c i j _ h; exact h.elim
  | succ n ih =>
    intro c i j hc h
    have mid : ∀ {c1 c2 i m j : Nat}, c1 ≤ 6 → c2 ≤ 6 → Ex w n c1 i m → Ex w n c2 (m + 1) j → w m ≠ 36 → w m ≠ 37 → w m ≠ 35 → Nx w 35 i (j - i) := fun k1 k2 e1 e2 a1 a2 a3 => Nx.mid (ex_pr e1).2.2.2.2.1 (ex_pr e1).1 (ex_pr e2).1 (ih k1 e1) (ih k2 e2) a1 a2 a3
    rw [Ex] at h
    by_cases c0 : c = 0
    · rw [if_pos c0] at h
      rcases h with ⟨h1, h2⟩ | ⟨h1, h2⟩ | ⟨h1, h2, h3⟩ | ⟨h1, h2, h3, h4⟩
      · intro m hm _
        rw [show m = 0 by omega, show i + 0 = i by omega]; omega
      · have p := ex_pr h2
        have k := Nx.join (w := w) (x := 35) (i := i) (a := 0) (b := j - (i + 1)) rfl (fun m hm => by omega) (by rw [show i + 0 + 1 = i + 1 by omega]; exact ih (by omega) h2) (by rw [show i + 0 = i by omega]; omega) (by rw [show i + 0 = i by omega]; omega) (by rw [show i + 0 = i by omega]; omega)
        have := p.1
        rw [show 0 + 1 + (j - (i + 1)) = j - i by omega] at k
        exact k
      · have p := ex_pr h3
        have hj := p.1
        obtain ⟨b, dd⟩ := p.2.2.2.2.1.paren h1 (by rw [show i + 1 + (j - 1 - (i + 1)) = j - 1 by omega]; exact h2)
        intro m hm q
        by_cases z : m = 0
        · rw [z, show i + 0 = i by omega]; omega
        · have := dd m (by omega) (by omega)
          omega
      · have p := ex_pr h4
        have hj := p.1
        obtain ⟨b, dd⟩ := Bl.paren (w := w) (i := i + 1) (b := j - 1 - (i + 2)) (by rw [show i + 1 + 1 = i + 2 by omega]; exact p.2.2.2.2.1) h2 (by rw [show i + 1 + 1 + (j - 1 - (i + 2)) = j - 1 by omega]; exact h3)
        have d1 : dp w i 1 = 0 := by rw [dp_s]; show (0 : Int) + _ = 0; rw [show i + 0 = i by omega, if_neg (by omega), if_neg (by omega)]; omega
        intro m hm q
        by_cases z : m = 0
        · rw [z, show i + 0 = i by omega]; omega
        · by_cases y : m = 1
          · rw [y, h2]; omega
          · rw [show m = 1 + (m - 1) by omega, dp_app, d1] at q
            have := dd (m - 1) (by omega) (by omega)
            omega
    rw [if_neg c0] at h
    by_cases c1 : c = 1
    · rw [if_pos c1] at h
      rcases h with h | ⟨m, h1, h2, h3⟩
      · exact ih (by omega) h
      · exact mid (by omega) (by omega) h2 h3 (by omega) (by omega) (by omega)
    rw [if_neg c1] at h
    by_cases c2 : c = 2
    · rw [if_pos c2] at h
      rcases h with h | ⟨m, h1, h2, h3⟩
      · exact ih (by omega) h
      · exact mid (by omega) (by omega) h2 h3 (by omega) (by omega) (by omega)
    rw [if_neg c2] at h
    by_cases c3 : c = 3
    · rw [if_pos c3] at h
      rcases h with h | ⟨m, h1, h2, h3⟩ | ⟨h1, h2⟩
      · exact ih (by omega) h
      · exact mid (by omega) (by omega) h2 h3 (by omega) (by omega) (by omega)
      · have p := ex_pr h2
        have k := Nx.join (w := w) (x := 35) (i := i) (a := 0) (b := j - (i + 1)) rfl (fun m hm => by omega) (by rw [show i + 0 + 1 = i + 1 by omega]; exact ih (by omega) h2) (by rw [show i + 0 = i by omega]; omega) (by rw [show i + 0 = i by omega]; omega) (by rw [show i + 0 = i by omega]; omega)
        have := p.1
        rw [show 0 + 1 + (j - (i + 1)) = j - i by omega] at k
        exact k
    rw [if_neg c3] at h
    by_cases c4 : c = 4
    · rw [if_pos c4] at h
      rcases h with h | ⟨m, h1, h2, h3⟩
      · exact ih (by omega) h
      · exact mid (by omega) (by omega) h2 h3 (by omega) (by omega) (by omega)
    rw [if_neg c4] at h
    by_cases c5 : c = 5
    · rw [if_pos c5] at h
      rcases h with h | ⟨m, h1, h2, h3⟩
      · exact ih (by omega) h
      · exact mid (by omega) (by omega) h2 h3 (by omega) (by omega) (by omega)
    rw [if_neg c5] at h
    by_cases c6 : c = 6
    · rw [if_pos c6] at h
      rcases h with h | ⟨m, q, h1, h2, h3, h4, h5⟩
      · exact ih (by omega) h
      · have p3 := ex_pr h3
        have p4 := ex_pr h4
        have p5 := ex_pr h5
        have k := Nx.mid p4.2.2.2.2.1 p4.1 p5.1 (ih (by omega) h4) (ih (by omega) h5) (by omega) (by omega) (by omega)
        exact Nx.mid p3.2.2.2.2.1 p3.1 (by have := p4.1; have := p5.1; omega) (ih (by omega) h3) k (by omega) (by omega) (by omega)
    · omega
/-- the jobs for a list's parts, the first on top -/
def JL (w : Nat → Int) (p : Int) : Nat → Nat → Nat → List Int → Prop
  | 0, _, _, _ => False
  | f + 1, i, j, s => (s = [(j : Int), (i : Int), p] ∧ Eo w 6 i j) ∨ ∃ (m : Nat) (s2 : List Int), w m = 35 ∧ Eo w 6 i m ∧ s = (m : Int) :: (i : Int) :: p :: s2 ∧ JL w p f (m + 1) j s2
theorem JL.snoc {p : Int} {j : Nat} : ∀ {f i m : Nat} {s : List Int}, JL w p f i m s → w m = 35 → Eo w 6 (m + 1) j → JL w p (f + 1) i j (s ++ [(j : Int), ((m + 1 : Nat) : Int), p])
  | 0, _, _, _, h, _, _ => h.elim
  | f + 1, i, m, s, h, hm, he => by
    rcases h with ⟨h1, h2⟩ | ⟨m', s2, h1, h2, h3, h4⟩
    · exact Or.inr ⟨m, [(j : Int), ((m + 1 : Nat) : Int), p], hm, h2, by rw [h1]; rfl, Or.inl ⟨rfl, he⟩⟩
    · exact Or.inr ⟨m', s2 ++ [(j : Int), ((m + 1 : Nat) : Int), p], h1, h2, by rw [h3]; rfl, JL.snoc h4 hm he⟩
end LI
section LJ
variable {G : mG} {d a N g T : Nat} {M : mM}
/-- same trees -/
def sameT (M2 M3 : mM) (g : Nat) : Prop := ∀ n, so M3 g n = so M2 g n ∧ va M3 g n = va M2 g n ∧ fp M3 g n = fp M2 g n ∧ np M3 g n = np M2 g n
theorem sameT.trans {M1 M2 M3 : mM} (h : sameT M1 M2 g) (k : sameT M2 M3 g) : sameT M1 M3 g := fun n => ⟨(k n).1.trans (h n).1, (k n).2.1.trans (h n).2.1, (k n).2.2.1.trans (h n).2.2.1, (k n).2.2.2.trans (h n).2.2.2⟩
theorem TI.wk {st : List Int} {M2 : mM} (h : TI M a g N T st M2) (hw : Wd M a) : wk M2 a = wk M a := by
  funext k
  exact (h.1.lst n5 (fun q => by
    rcases q with q | q
    · exact (tL_no h.2.2.2.2.2 hw).1 q
    · omega)).2.1 k
theorem s_MM_list {st : List Int} {M2 : mM} {p : Int} {i j : Nat} (hw : Wd M a) (h : TI M a g N T st M2) (hp : i32 p) (hi : 1 ≤ i) (hj : j < N) (hl : st.length + 3 * (j - i) ≤ 60000) (he : Eo (wk M a) 7 i j) : Cv G y_MM_list (d + 2) [vr a, vi p, vi i, vi j] M2 (fun M3 => ∃ s f, TI M a g N T (s ++ st) M3 ∧ sameT M2 M3 g ∧ JL (wk M a) p f i j s ∧ s.length ≤ 3 * (j - i)) := by
  have hN := h.2.1.1.2.2
  have hO := h.1.1
  have hpr := he.pr
  have hij := hpr.1
  refine k_MM_list hO hp (i32s (by omega) (by omega)) (i32s (by omega) (by omega)) ?_
  -- one part after the other, from the last
  suffices H : ∀ (L e : Nat) (M3 : mM) (s2 : List Int), e ≤ L → e ≤ j → Eo (wk M a) 7 i e → TI M a g N T (s2 ++ st) M3 → sameT M2 M3 g → (∀ s f, JL (wk M a) p f i e s → ∃ f', JL (wk M a) p f' i j (s ++ s2)) → s2.length ≤ 3 * (j - e) → h_MM_list_11 G (d + 1) a p i e 0 ((e : Int) - 1) M3 (fun M3 => ∃ s f, TI M a g N T (s ++ st) M3 ∧ sameT M2 M3 g ∧ JL (wk M a) p f i j s ∧ s.length ≤ 3 * (j - i)) from
    H j j M2 [] (Nat.le_refl _) (Nat.le_refl _) he h (fun n => ⟨rfl, rfl, rfl, rfl⟩) (fun s f q => ⟨f, by rw [List.append_nil]; exact q⟩) (by simp)
  intro L
  induction L with
  | zero => intro e M3 s2 h1 _ h3; have := h3.pr.1; omega
  | succ L ih =>
    intro e M3 s2 heL hej h7 t3 sT hJ hlen
    have p7 := h7.pr
    -- the last part begins at b
    obtain ⟨b, hb1, hb2, hb3⟩ : ∃ b, i ≤ b ∧ Eo (wk M a) 6 b e ∧ (b = i ∨ (1 ≤ b ∧ i < b - 1 ∧ wk M a (b - 1) = 35 ∧ Eo (wk M a) 7 i (b - 1))) := by
      rcases h7.lst with q | ⟨m, q1, q2, q3⟩
      · exact ⟨i, by omega, q, Or.inl rfl⟩
      · have := q2.pr.1
        exact ⟨m + 1, by omega, q3, Or.inr ⟨by omega, by omega, by rw [show m + 1 - 1 = m by omega]; exact q1, by rw [show m + 1 - 1 = m by omega]; exact q2⟩⟩
    have pb := hb2.pr
    have hbe := pb.1
    have hbl := pb.2.2.2.2.1
    have hnc : Nx (wk M a) 35 b (e - b) := by
      obtain ⟨n, hn⟩ := hb2
      exact ex_nc (by omega) hn
    have hwk3 := t3.wk hw
    have w3 := t3.2.1.1
    have hO3 := t3.1.1
    have hK := w3.1.1.1
    have hlen3 : (s2 ++ st).length ≤ 65000 := by rw [List.length_append]; omega
    -- the job for that part
    have hjob : Cv G y_MM_job (d + 1) [vr a, vi p, vi ((b : Int) - 1 + 1), vi e] M3 (fun M4 => mOk M4 ∧ h_MM_list_11 G (d + 1) a p i ((b : Int) - 1) 0 ((b : Int) - 1 + (-1)) M4 (fun M3 => ∃ s f, TI M a g N T (s ++ st) M3 ∧ sameT M2 M3 g ∧ JL (wk M a) p f i j s ∧ s.length ≤ 3 * (j - i))) := by
      rw [show (b : Int) - 1 + 1 = (b : Int) by omega]
      refine (s_MM_job (d := d) t3 hlen3 hp (i32s (by omega) (by omega)) (i32s (by omega) (by omega))).mono (fun M4 h4 => ?_)
      obtain ⟨t4, s4⟩ := h4
      refine ⟨t4.1.1, ?_⟩
      have t4' : TI M a g N T (((e : Int) :: (b : Int) :: p :: s2) ++ st) M4 := t4
      rcases hb3 with z | ⟨z1, z2, z3, z4⟩
      · subst z
        obtain ⟨f', hf'⟩ := hJ [(e : Int), (b : Int), p] 1 (Or.inl ⟨rfl, hb2⟩)
        exact k_MM_list_11 t4.1.1 hp (i32s (by omega) (by omega)) (i32s (by omega) (by omega)) (i32s (by omega) (by omega)) (i32s (by omega) (by omega)) ⟨i32s (by omega) (by omega), fun _ => ⟨(e : Int) :: (b : Int) :: p :: s2, f', t4', sT.trans s4, hf', by simp only [List.length_cons]; have := pb.1; omega⟩, fun q => by omega⟩
      · have := ih (b - 1) M4 ((e : Int) :: (b : Int) :: p :: s2) (by have := pb.1; omega) (by have := pb.1; omega) z4 t4' (sT.trans s4) (fun s f q => ?_) (by simp only [List.length_cons]; have := pb.1; omega)
        · rw [show (((b - 1 : Nat)) : Int) = (b : Int) - 1 by omega, show (b : Int) - 1 - 1 = (b : Int) - 1 + (-1) by omega] at this
          exact this
        · have k := JL.snoc q z3 (by rw [show b - 1 + 1 = b by omega]; exact hb2)
          rw [show b - 1 + 1 = b by omega] at k
          obtain ⟨f', hf'⟩ := hJ _ _ k
          refine ⟨f', ?_⟩
          rw [List.append_assoc] at hf'
          exact hf'
    -- back to the beginning of that part
    suffices H2 : ∀ (c k : Nat), k = b + c → k ≤ e → h_MM_list_11 G (d + 1) a p i e (dp (wk M a) b (k - b)) ((k : Int) - 1) M3 (fun M3 => ∃ s f, TI M a g N T (s ++ st) M3 ∧ sameT M2 M3 g ∧ JL (wk M a) p f i j s ∧ s.length ≤ 3 * (j - i)) by
      have := H2 (e - b) e (by have := pb.1; omega) (Nat.le_refl _)
      rw [hbl.1] at this
      exact this
    intro c
    induction c with
    | zero =>
      intro k hk hke
      have ek : k = b := by omega
      subst ek
      rw [show k - k = 0 by omega]
      show h_MM_list_11 G (d + 1) a p i e 0 ((k : Int) - 1) M3 _
      have h36' : h_MM_list_36 G (d + 1) a p i e 0 ((k : Int) - 1) 35 M3 (fun M3 => ∃ s f, TI M a g N T (s ++ st) M3 ∧ sameT M2 M3 g ∧ JL (wk M a) p f i j s ∧ s.length ≤ 3 * (j - i)) := by
        refine k_MM_list_36 hO3 hp (i32s (by omega) (by omega)) (i32s (by omega) (by omega)) (i32s (by omega) (by omega)) (i32s (by omega) (by omega)) (i32s (by omega) (by omega)) (fun v hv => ?_)
        rw [if_neg (by omega), if_neg (by omega)] at hv
        subst hv
        exact ⟨i32s (by omega) (by omega), fun _ => ⟨hK, hjob⟩, fun q => absurd ⟨rfl, rfl⟩ q⟩
      refine k_MM_list_11 hO3 hp (i32s (by omega) (by omega)) (i32s (by omega) (by omega)) (i32s (by omega) (by omega)) (i32s (by omega) (by omega)) ⟨i32s (by omega) (by omega), fun q => by omega, fun _ => ⟨fun q => ⟨hK, ?_⟩, fun _ => h36'⟩⟩
      rcases hb3 with z | ⟨z1, z2, z3, z4⟩
      · omega
      · rw [show (k : Int) - 1 = ((k - 1 : Nat) : Int) by omega]
        refine (s_MM_word1 (d := d) hO3 w3 (by have := pb.1; omega)).mono (fun x M5 h5 => ?_)
        obtain ⟨e5, hx⟩ := h5
        subst e5
        rw [hwk3, z3] at hx
        subst hx
        rw [show (((k - 1 : Nat)) : Int) = (k : Int) - 1 by omega]
        exact ⟨i32s (by omega) (by omega), hO3, h36'⟩
    | succ c ihc =>
      intro k hk hke
      have nx := ihc (k - 1) (by omega) (by omega)
      have db := dp_b (w := wk M a) (i := b) (k - b)
      have db1 := dp_b (w := wk M a) (i := b) (k - 1 - b)
      have hds : dp (wk M a) b (k - b) = dp (wk M a) b (k - 1 - b) + (if wk M a (k - 1) = 36 then 1 else if wk M a (k - 1) = 37 then -1 else 0) := by
        rw [show k - b = (k - 1 - b) + 1 by omega, dp_s, show b + (k - 1 - b) = k - 1 by omega]
      refine k_MM_list_11 hO3 hp (i32s (by omega) (by omega)) (i32s (by omega) (by omega)) (i32s (by omega) (by omega)) (i32s (by omega) (by omega)) ⟨i32s (by omega) (by omega), fun q => by omega, fun _ => ⟨fun q => ⟨hK, ?_⟩, fun q => by omega⟩⟩
      rw [show (k : Int) - 1 = ((k - 1 : Nat) : Int) by omega]
      refine (s_MM_word1 (d := d) hO3 w3 (by omega)).mono (fun x M5 h5 => ?_)
      obtain ⟨e5, hx⟩ := h5
      subst e5
      rw [hwk3] at hx
      refine ⟨by rw [hx, ← hwk3]; exact wk32 hO3, hO3, k_MM_list_36 hO3 hp (i32s (by omega) (by omega)) (i32s (by omega) (by omega)) (i32s (by omega) (by omega)) (i32s (by omega) (by omega)) (by rw [hx, ← hwk3]; exact wk32 hO3) (fun v hv => ?_)⟩
      have hv' : v = dp (wk M a) b (k - 1 - b) := by
        rw [hx] at hv
        split at hv <;> (try split at hv) <;> split at hds <;> (try split at hds) <;> omega
      have hnk := hnc (k - 1 - b) (by omega)
      rw [show b + (k - 1 - b) = k - 1 by omega] at hnk
      refine ⟨i32s (by omega) (by omega), fun q => absurd (by rw [← hx]; exact q.2) (hnk (by omega)), fun _ => ?_⟩
      rw [hv', show ((k - 1 : Nat) : Int) + (-1) = ((k - 1 : Nat) : Int) - 1 by omega]
      exact nx
end LJ
