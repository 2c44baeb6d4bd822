/-! The reference: what a tree is. -/
/-- how many parts a node has -/
def ari (s : Int) (k : Nat) : Prop := ((s = 31 ∨ s = 45) ∧ k = 1) ∨ ((18 ≤ s ∧ s ≤ 30) ∧ k = 2) ∨ (s = 32 ∧ k = 3) ∨ (s = 14 ∨ s = 15)
/-- a name as it is read: its word -/
def nmw (w : Nat → Int) (N : Nat) (v : Int) : Prop := 0 ≤ v ∧ v < N ∧ w v.toNat = 1
/-- md 0: nodes n to e - 1 are a tree; md k: they are k trees, brothers -/
def Tn (nm : Int → Prop) (M : mM) (g : Nat) : Nat → Nat → Nat → Nat → Prop
  | 0, _, _, _ => False
  | f + 1, md, n, e => if md = 0 then n < e ∧ ((e = n + 1 ∧ fp M g n = -1 ∧ (so M g n = 1 ∨ so M g n = 2 ∨ so M g n = 12 ∨ so M g n = 13) ∧ (so M g n = 2 → 0 ≤ va M g n ∧ va M g n < 1000000000) ∧ (so M g n = 1 → nm (va M g n))) ∨ ∃ k, 1 ≤ k ∧ ari (so M g n) k ∧ fp M g n = ((n + 1 : Nat) : Int) ∧ Tn nm M g f k (n + 1) e)
    else if md = 1 then np M g n = -1 ∧ Tn nm M g f 0 n e else ∃ m : Nat, np M g n = (m : Int) ∧ Tn nm M g f 0 n m ∧ Tn nm M g f (md - 1) m e
section TR
variable {nm : Int → Prop} {g : Nat} {M M' : mM}
theorem Tn.lt : ∀ {f md n e : Nat}, Tn nm M g f md n e → n < e := by
  intro f
  induction f with
  | zero => intro md n e h; exact h.elim
  | succ f ih =>
    intro md n e h
    rw [Tn] at h
    by_cases c0 : md = 0
    · rw [if_pos c0] at h; exact h.1
    · rw [if_neg c0] at h
      by_cases c1 : md = 1
      · rw [if_pos c1] at h; exact ih h.2
      · rw [if_neg c1] at h
        obtain ⟨m, -, h2, h3⟩ := h
        have := ih h2
        have := ih h3
        omega
theorem Tn.fr : ∀ {f md n e : Nat}, Tn nm M g f md n e → (∀ k, n ≤ k → k < e → so M' g k = so M g k ∧ va M' g k = va M g k ∧ fp M' g k = fp M g k) → (∀ k, n < k → k < e → np M' g k = np M g k) → (md ≠ 0 → np M' g n = np M g n) → Tn nm M' g f md n e := by
  intro f
  induction f with
  | zero => intro md n e h; exact h.elim
  | succ f ih =>
    intro md n e h h1 h2 h3
    have hlt := h.lt
    rw [Tn] at h ⊢
    by_cases c0 : md = 0
    · rw [if_pos c0] at h ⊢
      have k := h1 n (Nat.le_refl _) hlt
      rw [k.1, k.2.1, k.2.2]
      refine ⟨h.1, ?_⟩
      rcases h.2 with q | ⟨k', q1, q2, q3, q4⟩
      · exact Or.inl q
      · have := q4.lt
        exact Or.inr ⟨k', q1, q2, q3, ih q4 (fun x a b => h1 x (by omega) b) (fun x a b => h2 x (by omega) b) (fun _ => h2 (n + 1) (by omega) this)⟩
    · rw [if_neg c0] at h ⊢
      by_cases c1 : md = 1
      · rw [if_pos c1] at h ⊢
        exact ⟨by rw [h3 c0]; exact h.1, ih h.2 h1 h2 (fun z => absurd rfl z)⟩
      · rw [if_neg c1] at h ⊢
        obtain ⟨m, q1, q2, q3⟩ := h
        have l1 := q2.lt
        have l2 := q3.lt
        exact ⟨m, by rw [h3 c0]; exact q1, ih q2 (fun x a b => h1 x a (by omega)) (fun x a b => h2 x a (by omega)) (fun z => absurd rfl z), ih q3 (fun x a b => h1 x (by omega) b) (fun x a b => h2 x (by omega) b) (fun _ => h2 m l1 l2)⟩
theorem Tn.up : ∀ {f md n e : Nat}, Tn nm M g f md n e → Tn nm M g (f + 1) md n e := by
  intro f
  induction f with
  | zero => intro md n e h; exact h.elim
  | succ f ih =>
    intro md n e h
    rw [Tn] at h ⊢
    by_cases c0 : md = 0
    · rw [if_pos c0] at h ⊢
      refine ⟨h.1, ?_⟩
      rcases h.2 with q | ⟨k', q1, q2, q3, q4⟩
      · exact Or.inl q
      · exact Or.inr ⟨k', q1, q2, q3, ih q4⟩
    · rw [if_neg c0] at h ⊢
      by_cases c1 : md = 1
      · rw [if_pos c1] at h ⊢
        exact ⟨h.1, ih h.2⟩
      · rw [if_neg c1] at h ⊢
        obtain ⟨m, q1, q2, q3⟩ := h
        exact ⟨m, q1, ih q2, ih q3⟩
theorem Tn.add {f md n e : Nat} (h : Tn nm M g f md n e) : ∀ k, Tn nm M g (f + k) md n e
  | 0 => h
  | k + 1 => (Tn.add h k).up
/-- a tree; k brothers -/
def To (nm : Int → Prop) (M : mM) (g md n e : Nat) : Prop := ∃ f, Tn nm M g f md n e
theorem To.one {n e : Nat} (h : To nm M g 0 n e) (hp : np M g n = -1) : To nm M g 1 n e := by
  obtain ⟨f, h⟩ := h
  exact ⟨f + 1, by rw [Tn, if_neg (by omega), if_pos rfl]; exact ⟨hp, h⟩⟩
theorem To.cons {k n m e : Nat} (hk : 1 ≤ k) (h : To nm M g 0 n m) (hp : np M g n = (m : Int)) (h2 : To nm M g k m e) : To nm M g (k + 1) n e := by
  obtain ⟨f, h⟩ := h
  obtain ⟨f2, h2⟩ := h2
  refine ⟨f + f2 + 1, ?_⟩
  rw [Tn, if_neg (by omega), if_neg (by omega)]
  refine ⟨m, hp, h.add f2, ?_⟩
  have := h2.add f
  rw [Nat.add_comm f2 f] at this
  rw [show k + 1 - 1 = k by omega]
  exact this
theorem To.node {k n e : Nat} (hk : 1 ≤ k) (ha : ari (so M g n) k) (hf : fp M g n = ((n + 1 : Nat) : Int)) (h : To nm M g k (n + 1) e) : To nm M g 0 n e := by
  obtain ⟨f, h⟩ := h
  have := h.lt
  exact ⟨f + 1, by rw [Tn, if_pos rfl]; exact ⟨by omega, Or.inr ⟨k, hk, ha, hf, h⟩⟩⟩
theorem To.leaf {n : Nat} (hf : fp M g n = -1) (hs : so M g n = 1 ∨ so M g n = 2 ∨ so M g n = 12 ∨ so M g n = 13) (h2 : so M g n = 2 → 0 ≤ va M g n ∧ va M g n < 1000000000) (h1 : so M g n = 1 → nm (va M g n)) : To nm M g 0 n (n + 1) :=
  ⟨1, by rw [Tn, if_pos rfl]; exact ⟨by omega, Or.inl ⟨rfl, hf, hs, h2, h1⟩⟩⟩
theorem To.fr {md n e : Nat} (h : To nm M g md n e) (h1 : ∀ k, n ≤ k → k < e → so M' g k = so M g k ∧ va M' g k = va M g k ∧ fp M' g k = fp M g k) (h2 : ∀ k, n < k → k < e → np M' g k = np M g k) (h3 : md ≠ 0 → np M' g n = np M g n) : To nm M' g md n e := by
  obtain ⟨f, h⟩ := h
  exact ⟨f, h.fr h1 h2 h3⟩
/-- one tree has been joined to p, nothing else has changed below T -/
def JE (M2 M3 : mM) (g T : Nat) (p : Int) : Prop := (∀ n, n < T → so M3 g n = so M2 g n ∧ va M3 g n = va M2 g n) ∧ ((p < 0 ∧ ∀ n, n < T → fp M3 g n = fp M2 g n ∧ np M3 g n = np M2 g n) ∨ (0 ≤ p ∧ fp M2 g p.toNat = -1 ∧ (∀ n, n < T → fp M3 g n = if n = p.toNat then (T : Int) else fp M2 g n) ∧ ∀ n, n < T → np M3 g n = np M2 g n) ∨ (0 ≤ p ∧ ∃ f c l : Nat, fp M2 g p.toNat = c ∧ Lk M2 g T f c l ∧ (∀ n, n < T → fp M3 g n = fp M2 g n) ∧ ∀ n, n < T → np M3 g n = if n = l then (T : Int) else np M2 g n))
def chn (M : mM) (g T : Nat) (p : Int) : Prop := 0 ≤ p → fp M g p.toNat = -1 ∨ ∃ f c l : Nat, fp M g p.toNat = c ∧ Lk M g T f c l
theorem Lk.det {T f f' x l l' : Nat} (h : Lk M g T f x l) (h' : Lk M g T f' x l') : l = l' := by
  induction f generalizing x f' with
  | zero => exact h.elim
  | succ f ih =>
    cases f' with
    | zero => exact h'.elim
    | succ f' =>
      obtain ⟨-, h⟩ := h
      obtain ⟨-, h'⟩ := h'
      rcases h with ⟨h1, h2⟩ | ⟨y, h1, h2⟩ <;> rcases h' with ⟨k1, k2⟩ | ⟨y', k1, k2⟩
      · omega
      · omega
      · omega
      · have : y = y' := by omega
        subst this
        exact ih h2 k2
/-- the chain goes on to T -/
theorem Lk.ext {T T' f x l : Nat} (h : Lk M g T f x l) (hT : T < T') (hn : ∀ n, n < T → np M' g n = if n = l then (T : Int) else np M g n) (ht : np M' g T = -1) : ∃ f', Lk M' g T' f' x T := by
  induction f generalizing x with
  | zero => exact h.elim
  | succ f ih =>
    obtain ⟨h0, h⟩ := h
    have e := hn x h0
    rcases h with ⟨h1, h2⟩ | ⟨y, h1, h2⟩
    · subst h1
      rw [if_pos rfl] at e
      exact ⟨2, by omega, Or.inr ⟨T, e, hT, Or.inl ⟨rfl, ht⟩⟩⟩
    · by_cases z : x = l
      · -- the last one has no brother
        exfalso
        have hl : ∀ (f y : Nat), Lk M g T f y l → np M g l = -1 := by
          intro f
          induction f with
          | zero => intro y q; exact q.elim
          | succ f ihf =>
            intro y q
            rcases q.2 with ⟨q1, q2⟩ | ⟨y', q1, q2⟩
            · rw [← q1]; exact q2
            · exact ihf y' q2
        have := hl f y h2
        rw [z] at h1
        omega
      · rw [if_neg z] at e
        obtain ⟨f', hf'⟩ := ih h2
        exact ⟨f' + 1, by omega, Or.inr ⟨y, by rw [e]; exact h1, hf'⟩⟩
theorem JE.chain {M2 M3 : mM} {T T' : Nat} {p : Int} (h : JE M2 M3 g T p) (hp : 0 ≤ p) (hpT : p < T) (hT : T < T') (ht : np M3 g T = -1) : ∃ f c : Nat, fp M3 g p.toNat = c ∧ Lk M3 g T' f c T := by
  rcases h.2 with ⟨q, -⟩ | ⟨-, q1, q2, q3⟩ | ⟨-, f, c, l, q1, q2, q3, q4⟩
  · omega
  · refine ⟨1, T, ?_, hT, Or.inl ⟨rfl, ht⟩⟩
    rw [q2 p.toNat (by omega), if_pos rfl]
  · obtain ⟨f', hf'⟩ := q2.ext hT q4 ht
    exact ⟨f', c, by rw [q3 p.toNat (by omega)]; exact q1, hf'⟩
/-- a second tree after a first -/
theorem JE.next {M2 M3 M4 : mM} {T T3 : Nat} {p : Int} (h : JE M2 M3 g T p) (k : JE M3 M4 g T3 p) (hp : 0 ≤ p) (hpT : p < T) (hT : T < T3) (ht : np M3 g T = -1) : JE M2 M4 g T p ∧ np M4 g T = (T3 : Int) ∧ (∀ n, n < T3 → so M4 g n = so M3 g n ∧ va M4 g n = va M3 g n ∧ fp M4 g n = fp M3 g n) ∧ ∀ n, n < T3 → n ≠ T → np M4 g n = np M3 g n := by
  obtain ⟨f, c, hc1, hc2⟩ := h.chain hp hpT hT ht
  have k3 : (∀ n, n < T3 → fp M4 g n = fp M3 g n) ∧ ∀ n, n < T3 → np M4 g n = if n = T then (T3 : Int) else np M3 g n := by
    rcases k.2 with ⟨q, -⟩ | ⟨-, q1, -⟩ | ⟨-, f', c', l, q1, q2, q3, q4⟩
    · omega
    · omega
    · have e : c' = c := by omega
      subst e
      have := Lk.det q2 hc2
      subst this
      exact ⟨q3, q4⟩
  refine ⟨⟨fun n hn => ⟨(k.1 n (by omega)).1.trans (h.1 n hn).1, (k.1 n (by omega)).2.trans (h.1 n hn).2⟩, ?_⟩, by rw [k3.2 T hT, if_pos rfl], fun n hn => ⟨(k.1 n hn).1, (k.1 n hn).2, k3.1 n hn⟩, fun n hn hne => by rw [k3.2 n hn, if_neg hne]⟩
  rcases h.2 with ⟨q, -⟩ | ⟨-, q1, q2, q3⟩ | ⟨-, f', c', l, q1, q2, q3, q4⟩
  · omega
  · exact Or.inr (Or.inl ⟨hp, q1, fun n hn => by rw [k3.1 n (by omega)]; exact q2 n hn, fun n hn => by rw [k3.2 n (by omega), if_neg (by omega)]; exact q3 n hn⟩)
  · exact Or.inr (Or.inr ⟨hp, f', c', l, q1, q2, fun n hn => by rw [k3.1 n (by omega)]; exact q3 n hn, fun n hn => by rw [k3.2 n (by omega), if_neg (by omega)]; exact q4 n hn⟩)
end TR
