section
/-! The class's top: questions about the game. -/
section NCC
variable {G : mG} {d t g s c cn cc bc : Nat} {M M' : mM}
theorem GR.cnt (hr : GR M g cn cc bc) : mI M g 0 = ((cn : Nat) : Int) ∧ cn ≤ 512 := by
  rcases hr with ⟨e1, e2⟩ | ⟨-, q⟩
  · exact ⟨by rw [e1]; exact e2, by omega⟩
  · exact ⟨q.1.1, q.1.2.1⟩
theorem GR.cmd (hr : GR M g cn cc bc) (c1 : 1 ≤ cn) : (cc ≤ bc ∧ bc ≤ 4096 ∧ cn ≤ 512) ∧ ∀ c, c < cc → cmdG M g cn bc c := by
  rcases hr with ⟨e1, -⟩ | ⟨-, q⟩
  · omega
  · obtain ⟨⟨-, q2, -⟩, -, -, t1, t2, t3, -⟩ := q
    exact ⟨⟨t1, t2, q2⟩, t3⟩
/-- the top with its game -/
def Tg (M : mM) (t g cn cc bc : Nat) : Prop := mOk M ∧ (mK M t = 1 ∧ mR M t 9 = g) ∧ GK M g ∧ GR M g cn cc bc
theorem s_CA_place (h : Tg M t g cn cc bc) : Ci G y_CA_place d [vr t] M (fun r M' => M' = M ∧ i32 r ∧ r = mI M t 7) := k_CA_place h.1 ⟨h.2.1.1, rfl, (h.1 _ _).1, rfl⟩
theorem s_CA_state (h : Tg M t g cn cc bc) : Ci G y_CA_state d [vr t] M (fun r M' => M' = M ∧ i32 r ∧ r = mI M t 8) := k_CA_state h.1 ⟨h.2.1.1, rfl, (h.1 _ _).1, rfl⟩
theorem s_CA_states (h : Tg M t g cn cc bc) : Ci G y_CA_states d [vr t] M (fun r M' => M' = M ∧ r = ((cn : Nat) : Int)) := by
  obtain ⟨h1, ⟨h2, h3⟩, h4, h5⟩ := h
  refine k_CA_states h1 ?_
  rw [h3]
  exact ⟨h2, h4.1, rfl, h5.cnt.1⟩
theorem s_CA_items {l : Int} {p : Nat} (il : i32 l) (h : Tg M t g cn cc bc) (hp : mR M t 4 = p ∧ mK M p = 6) : Ci G y_CA_items d [vr t, vi l] M (fun r M' => (M' = M ∧ i32 r) ∧ r = if mI M t 6 = 0 then -1 else if l = 0 then mI M p 3 else if l = 1 then mI M p 7 else if l = 2 then mI M p 12 else -1) := by
  obtain ⟨h1, ⟨h2, h3⟩, h4, h5⟩ := h
  refine k_CA_items h1 il ?_
  rw [hp.1]
  have m1 : (M = M ∧ i32 (-1)) := ⟨rfl, by decide, by decide⟩
  exact ⟨h2, fun u => ⟨m1, by rw [if_pos u]⟩, fun u => ⟨fun u0 => ⟨hp.2, ⟨rfl, (h1 _ _).1⟩, by rw [if_neg u, if_pos u0]⟩, fun u0 => ⟨fun u1 => ⟨hp.2, ⟨rfl, (h1 _ _).1⟩, by rw [if_neg u, if_neg u0, if_pos u1]⟩, fun u1 => ⟨fun u2 => ⟨hp.2, ⟨rfl, (h1 _ _).1⟩, by rw [if_neg u, if_neg u0, if_neg u1, if_pos u2]⟩, fun u2 => ⟨m1, by rw [if_neg u, if_neg u0, if_neg u1, if_neg u2]⟩⟩⟩⟩⟩
theorem s_CA_next {l1 l2 : Int} (i1 : i32 l1) (i2 : i32 l2) (h : Tg M t g cn cc bc) : Ci G y_CA_next (d + 2) [vr t, vi l1, vi l2] M (fun r M' => M' = M ∧ i32 r) := by
  obtain ⟨h1, ⟨h2, h3⟩, h4, h5⟩ := h
  have hc := h5.cnt
  obtain ⟨g0, ⟨-, -, g3, -⟩, ⟨-, -, k3, -⟩, ⟨-, -, n3, -⟩⟩ := id h4
  refine k_CA_next h1 i1 i2 ?_
  rw [h3]
  refine ⟨h2, g0, (s_Ga_hasState i1 h1 g0 hc.1).mono (fun x4 M3 q => ?_)⟩
  obtain ⟨e, hx, hi⟩ := q
  subst e
  rw [h3, g3, n3]
  refine ⟨m_b32 hx, h1, fun _ => ⟨rfl, by decide, by decide⟩, fun u => ?_⟩
  have b := hi.mp (fun w => u (Or.inl w))
  refine ⟨h2, g0, k3, by omega, (s_Ga_commandAt (d := d) i1 (h1 _ _).1 h1 h4 h5).mono (fun x16 M15 q => ?_)⟩
  obtain ⟨e, hx16, hi16⟩ := q
  subst e
  refine ⟨hx16, h1, fun _ => ⟨rfl, i1⟩, fun u16 => ?_⟩
  rcases hi16 with w | w
  · exact absurd w u16
  obtain ⟨b1, b2⟩ := h5.cmd w.2.2
  have m := b2 x16.toNat (by omega)
  rw [h3]
  have e16 : ((x16.toNat : Nat) : Int) = x16 := by omega
  have key := s_Ga_drawn (G := G) (d := d + 1) (l2 := l2) i2 h1 h4 (by omega) b1.1 b1.2.1 b1.2.2 m
  rw [e16] at key
  exact ⟨h2, g0, key.mono (fun x25 M24 q => ⟨q.2.1, by rw [q.1]; exact h1, q.1, q.2.1⟩)⟩
end NCC
end
section
/-! The class's top: which fraction is asked for; choices, ranks, characters. -/
section NCD
variable {G : mG} {d t g s p pr v v0 v1 v2 c cn cc bc : Nat} {M M' : mM}
/-- a table of fractions, rows enough for all states once it is known -/
def Tbl3 (M : mM) (v cn : Nat) : Prop := mK M v = 13 ∧ mK M (mR M v 0) = 35 ∧ (mI M v 1 ≠ 0 → cn ≤ mN M (mR M v 0))
/-- the top's three tables -/
def Tab3 (M : mM) (t v0 v1 v2 cn : Nat) : Prop := (mR M t 11 = v0 ∧ mR M t 12 = v1 ∧ mR M t 14 = v2) ∧ Tbl3 M v0 cn ∧ Tbl3 M v1 cn ∧ Tbl3 M v2 cn
/-- a row of a table that is known -/
def RowK (M : mM) (v cn f : Nat) : Prop := mI M v 1 ≠ 0 ∧ ∃ k, k < cn ∧ f = mR M (mR M v 0) k
theorem s_fo {l : Int} {Q : Nat → mM → Prop} (il : i32 l) (h : Tg M t g cn cc bc) (hb : Tbl3 M v cn) (hQ0 : Q 0 M) (hQ : ∀ f, RowK M v cn f → Q f M) : (¬ (v = 0) → mK M v = 13) ∧ (((v = 0) ∨ (mI M v 1 = 0)) → (Q 0 M)) ∧ (¬ ((v = 0) ∨ (mI M v 1 = 0)) → (mK M t = 1 ∧ mK M (mR M t 9) = 7 ∧ Ci G y_Ga_hasState d [vr (mR M t 9), vi l] M (fun x23 M22 => i32 x23 ∧ mOk M22 ∧ ((¬ (x23 = 0) → (mK M22 v = 13 ∧ mK M22 (mR M22 v 0) = 35 ∧ ((0 : Int) ≤ l ∧ l < (mN M22 (mR M22 v 0) : Int)))) ∧ ∀ v29 : Nat, v29 = (if (x23 = 0) then 0 else mR M22 (mR M22 v 0) (Int.toNat l)) → Q v29 M22)))) := by
  obtain ⟨h1, ⟨h2, h3⟩, h4, h5⟩ := h
  obtain ⟨b1, b2, b3⟩ := hb
  have hc := h5.cnt
  rw [h3]
  refine ⟨fun _ => b1, fun _ => hQ0, fun u => ⟨h2, h4.1, (s_Ga_hasState il h1 h4.1 hc.1).mono (fun x M3 q => ?_)⟩⟩
  obtain ⟨e, hx, hi⟩ := q
  subst e
  have kn : mI M3 v 1 ≠ 0 := fun w => u (Or.inr w)
  have b4 := b3 kn
  refine ⟨m_b32 hx, h1, fun w => ?_, fun r e => ?_⟩
  · have := hi.mp w
    exact ⟨b1, b2, by omega, by omega⟩
  · rw [e]
    by_cases w : x = 0
    · rw [if_pos w]; exact hQ0
    · rw [if_neg w]
      have := hi.mp w
      exact hQ _ ⟨kn, l.toNat, by omega, rfl⟩
theorem s_CA_fractionOf {l1 l2 : Int} (i1 : i32 l1) (i2 : i32 l2) (h : Tg M t g cn cc bc) (h3 : Tab3 M t v0 v1 v2 cn) : Cr G y_CA_fractionOf (d + 1) [vr t, vi l1, vi l2] M (fun f M' => M' = M ∧ (f = 0 ∨ RowK M v0 cn f ∨ RowK M v1 cn f ∨ RowK M v2 cn f)) := by
  obtain ⟨⟨e0, e1, e2⟩, b0, b1, b2⟩ := h3
  refine k_CA_fractionOf h.1 i1 i2 ?_
  rw [e0, e1, e2]
  have k1 := h.2.1.1
  refine ⟨⟨fun _ => k1, fun _ => ⟨fun _ => k1, fun _ _ => k1⟩⟩, fun v7 e7 => ?_⟩
  by_cases c0 : l2 = 0
  · rw [if_pos c0] at e7
    rw [e7]
    exact s_fo (Q := fun f M' => M' = M ∧ (f = 0 ∨ RowK M v0 cn f ∨ RowK M v1 cn f ∨ RowK M v2 cn f)) i1 h b0 ⟨rfl, Or.inl rfl⟩ (fun f r => ⟨rfl, Or.inr (Or.inl r)⟩)
  rw [if_neg c0] at e7
  by_cases c1 : l2 = 1
  · rw [if_pos c1] at e7
    rw [e7]
    exact s_fo (Q := fun f M' => M' = M ∧ (f = 0 ∨ RowK M v0 cn f ∨ RowK M v1 cn f ∨ RowK M v2 cn f)) i1 h b1 ⟨rfl, Or.inl rfl⟩ (fun f r => ⟨rfl, Or.inr (Or.inr (Or.inl r))⟩)
  rw [if_neg c1] at e7
  by_cases c2 : l2 = 2
  · rw [if_pos c2] at e7
    rw [e7]
    exact s_fo (Q := fun f M' => M' = M ∧ (f = 0 ∨ RowK M v0 cn f ∨ RowK M v1 cn f ∨ RowK M v2 cn f)) i1 h b2 ⟨rfl, Or.inl rfl⟩ (fun f r => ⟨rfl, Or.inr (Or.inr (Or.inr r))⟩)
  rw [if_neg c2] at e7
  subst e7
  exact ⟨fun u => absurd rfl u, fun _ => ⟨rfl, Or.inl rfl⟩, fun u => absurd (Or.inl rfl) u⟩
theorem s_CA_choice {l : Int} (il : i32 l) (h : Tg M t g cn cc bc) (hs : mR M t 10 = s) (hS : SoT M s g) (ht : mR M t 11 = v0 ∧ mK M v0 = 13) : Ci G y_CA_choice (d + 1) [vr t, vi l] M (fun r M' => M' = M ∧ i32 r) := by
  obtain ⟨h1, ⟨h2, h3⟩, h4, h5⟩ := h
  have hc := h5.cnt
  obtain ⟨⟨s0, -⟩, ⟨-, r1, r2, -⟩, ⟨k1, k2, -⟩, ⟨n1, n2, -⟩⟩ := hS
  refine k_CA_choice h1 il ?_
  rw [h3, ht.1]
  refine ⟨h2, ht.2, fun _ => ⟨rfl, by decide, by decide⟩, fun _ => ⟨h4.1, (s_Ga_hasState il h1 h4.1 hc.1).mono (fun x M3 q => ?_)⟩⟩
  obtain ⟨e, hx, hi⟩ := q
  subst e
  rw [hs, r2, n2]
  refine ⟨m_b32 hx, h1, fun w => ?_, fun r e => ⟨rfl, ?_⟩⟩
  · have := hi.mp w
    exact ⟨h2, s0, k2, by omega, by omega⟩
  · rw [e]
    split
    · exact ⟨by decide, by decide⟩
    · exact (h1 _ _).1
theorem s_CA_rank {l : Int} (il : i32 l) (h : Tg M t g cn cc bc) (hs : mR M t 10 = s) (hS : SoT M s g) (ht : mR M t 11 = v0 ∧ mK M v0 = 13) : Ci G y_CA_rank (d + 1) [vr t, vi l] M (fun r M' => M' = M ∧ i32 r) := by
  obtain ⟨h1, ⟨h2, h3⟩, h4, h5⟩ := h
  have hc := h5.cnt
  obtain ⟨⟨s0, -⟩, ⟨-, r1, r2, -⟩, ⟨k1, k2, -⟩, ⟨n1, n2, -⟩⟩ := hS
  refine k_CA_rank h1 il ?_
  rw [h3, ht.1]
  refine ⟨h2, ht.2, fun _ => ⟨rfl, by decide, by decide⟩, fun _ => ⟨h4.1, (s_Ga_hasState il h1 h4.1 hc.1).mono (fun x M3 q => ?_)⟩⟩
  obtain ⟨e, hx, hi⟩ := q
  subst e
  rw [hs, r1, n1]
  refine ⟨m_b32 hx, h1, fun w => ?_, fun r e => ⟨rfl, ?_⟩⟩
  · have := hi.mp w
    exact ⟨h2, s0, k1, by omega, by omega⟩
  · rw [e]
    split
    · exact ⟨by decide, by decide⟩
    · exact (h1 _ _).1
theorem s_CA_character {l : Int} (il : i32 l) (h1 : mOk M) (h2 : mK M t = 1) (h3 : mR M t 17 = pr) (h4 : mK M pr = 32 ∧ mN M pr = 400) (h5 : mI M t 18 = ((c : Nat) : Int)) (h6 : c ≤ 400) : Ci G y_CA_character d [vr t, vi l] M (fun r M' => M' = M ∧ i32 r) := by
  refine k_CA_character h1 il ?_
  rw [h3, h4.2, h5]
  refine ⟨fun u => ⟨h2, fun w => ⟨h4.1, by omega, by omega⟩⟩, fun v e => ⟨rfl, ?_⟩⟩
  rw [e]
  split
  · exact ⟨by decide, by decide⟩
  · exact (h1 _ _).1
/-- end, where it does not throw -/
theorem s_CA_end {l : Int} {n : Nat} (il : i32 l) (h1 : mOk M) (h2 : mK M t = 1) (hn : mI M t 1 = ((n : Nat) : Int)) (hb : n ≤ 16384) (hl : 0 ≤ l ∧ l ≤ 20 ∧ 20 ≤ n) : Ci G y_CA_end d [vr t, vi l] M (fun r M' => r = ((n : Nat) : Int) + (l - 20) ∧ mOk M' ∧ M' = mUI M t 1 (((n : Nat) : Int) + (l - 20))) := by
  refine k_CA_end h1 il ?_
  rw [hn]
  refine ⟨fun _ _ => h2, fun u => ?_, fun _ => ⟨h2, i32s (by omega) (by omega), fun M11 e => ?_⟩⟩
  · rcases u with u | u | u <;> omega
  · rw [mI_ui t 1 e, if_pos ⟨rfl, rfl⟩]
    exact ⟨rfl, by rw [e]; exact mOk_UI h1 ⟨by omega, by omega⟩, e⟩
/-- what is known is forgotten -/
def Sfg (v0 v1 v2 x : Nat) : Prop := x = v0 ∨ x = v1 ∨ x = v2
theorem s_CA_forget (h1 : mOk M) (h2 : mK M t = 1) (h3 : Tab3 M t v0 v1 v2 cn) (nt : t ≠ v0 ∧ t ≠ v1 ∧ t ≠ v2) : Cv G y_CA_forget d [vr t] M (fun M' => mOk M' ∧ FI (Sfg v0 v1 v2) M M' ∧ mI M' v0 1 = 0 ∧ mI M' v1 1 = 0 ∧ mI M' v2 1 = 0) := by
  obtain ⟨⟨e0, e1, e2⟩, b0, b1, b2⟩ := h3
  refine k_CA_forget h1 ?_
  rw [e0]
  refine ⟨h2, b0.1, fun M3 q3 => ?_⟩
  have f3 : FI (Sfg v0 v1 v2) M M3 := by rw [q3]; exact FI.ui (Or.inl rfl)
  rw [f3.1, f3.2.2.1, e1]
  refine ⟨b1.1, fun M6 q6 => ?_⟩
  have f6 : FI (Sfg v0 v1 v2) M3 M6 := by rw [q6]; exact FI.ui (Or.inr (Or.inl rfl))
  rw [f6.1, f6.2.2.1, f3.1, f3.2.2.1, e2]
  refine ⟨b2.1, fun M9 q9 => ?_⟩
  have f9 : FI (Sfg v0 v1 v2) M6 M9 := by rw [q9]; exact FI.ui (Or.inr (Or.inr rfl))
  have z : i32 0 := ⟨by decide, by decide⟩
  have o9 : mOk M9 := by rw [q9]; refine mOk_UI ?_ z; rw [q6]; refine mOk_UI ?_ z; rw [q3]; exact mOk_UI h1 z
  have r : ∀ v, v = v0 ∨ v = v1 ∨ v = v2 → mI M9 v 1 = 0 := fun v hv => by
    rw [mI_ui v 1 q9, mI_ui v 1 q6, mI_ui v 1 q3]
    split
    · rfl
    · split
      · rfl
      · split
        · rfl
        · rename_i a b c
          rcases hv with u | u | u
          · exact absurd ⟨u, rfl⟩ c
          · exact absurd ⟨u, rfl⟩ b
          · exact absurd ⟨u, rfl⟩ a
  exact ⟨o9, (f3.trans f6).trans f9, r v0 (Or.inl rfl), r v1 (Or.inr (Or.inl rfl)), r v2 (Or.inr (Or.inr rfl))⟩
end NCD
end
section
/-! The class's top: the tape is fed. -/
section NCE
variable {G : mG} {d t A K n : Nat} {M M' M1 M2 M3 M4 : mM} {c9 c8 : Nat → Int}
theorem i2c_a (x : Int) : 0 ≤ i2cI x ∧ i2cI x < 65536 := by
  unfold i2cI
  generalize (Int32.ofInt x).toUInt32 = u
  have h : (u % 65536).toNat < 65536 := by rw [UInt32.toNat_mod]; exact Nat.mod_lt _ (by decide)
  have e : (u % 65536).toInt32.toInt = ((u % 65536).toNat : Int) := BitVec.toInt_eq_toNat_of_lt (by show 2 * (u % 65536).toNat < 2 ^ 32; omega)
  rw [e]
  omega
theorem i2c_id {x : Int} (h : 0 ≤ x ∧ x < 65536) : i2cI x = x := by
  unfold i2cI
  have hu : (Int32.ofInt x).toUInt32.toNat = x.toNat := by
    show (BitVec.ofInt 32 x).toNat = x.toNat
    rw [BitVec.toNat_ofInt]
    show (x % 4294967296).toNat = x.toNat
    omega
  generalize (Int32.ofInt x).toUInt32 = u at hu ⊢
  have e9 : (u % 65536).toNat = u.toNat % 65536 := by
    rw [UInt32.toNat_mod]
    rfl
  have e : (u % 65536).toInt32.toInt = ((u % 65536).toNat : Int) := BitVec.toInt_eq_toNat_of_lt (by show 2 * (u % 65536).toNat < 2 ^ 32; omega)
  rw [e, e9, hu]
  omega
theorem u_shr {x : Int} (h : i32 x) (k : Nat) (hk : k = 8 ∨ k = 16 ∨ k = 24) : ushrI x k = x % 4294967296 / 2 ^ k := by
  have hk1 : k < 32 := by omega
  have e : ∀ k, k < 32 → ((Int32.ofInt ((k : Nat) : Int)).toUInt32 &&& Int32.toUInt32 31).toBitVec = BitVec.ofNat 32 k := by decide
  unfold ushrI
  show (BitVec.ofInt 32 x >>> (((Int32.ofInt ((k : Nat) : Int)).toUInt32 &&& Int32.toUInt32 31).toBitVec % 32#32)).toInt = _
  rw [e k hk1]
  have e2 : ∀ k, k < 32 → (BitVec.ofNat 32 k % 32#32).toNat = k := by decide
  have h1 : (BitVec.ofInt 32 x).toNat = (x % 4294967296).toNat := by
    rw [BitVec.toNat_ofInt]
    rfl
  have h2 : (BitVec.ofInt 32 x >>> (BitVec.ofNat 32 k % 32#32)).toNat = (x % 4294967296).toNat / 2 ^ k := by
    rw [BitVec.ushiftRight_eq', e2 k hk1, BitVec.toNat_ushiftRight, h1, Nat.shiftRight_eq_div_pow]
  rw [BitVec.toInt_eq_toNat_cond, h2]
  generalize hy : x % 4294967296 = y
  have y0 : 0 ≤ y ∧ y < 4294967296 := by omega
  obtain ⟨m, hm⟩ : ∃ m : Nat, y = m := ⟨y.toNat, by omega⟩
  subst hm
  rw [Int.toNat_natCast]
  rcases hk with z | z | z <;> subst z
  · rw [if_pos (by show 2 * (m / 256) < 4294967296; omega)]
    rfl
  · rw [if_pos (by show 2 * (m / 65536) < 4294967296; omega)]
    rfl
  · rw [if_pos (by show 2 * (m / 16777216) < 4294967296; omega)]
    rfl
theorem u_sh0 {x : Int} (h : i32 x) : ushrI x 0 = x := by
  unfold ushrI
  show (BitVec.ofInt 32 x >>> (((Int32.ofInt (0 : Int)).toUInt32 &&& Int32.toUInt32 31).toBitVec % 32#32)).toInt = _
  have e : (((Int32.ofInt (0 : Int)).toUInt32 &&& Int32.toUInt32 31).toBitVec % 32#32) = 0#32 := by decide
  rw [e]
  have e2 : BitVec.ofInt 32 x >>> 0#32 = BitVec.ofInt 32 x := by
    rw [BitVec.ushiftRight_eq']
    exact BitVec.ushiftRight_zero _
  rw [e2]
  exact i32_toInt h
/-- a byte of an int, as the class takes it -/
theorem byt_u {x : Int} (h : i32 x) (k : Nat) (hk : k ≤ 3) : i2cI (andI (ushrI x (8 * (k : Int))) 255) = byt x (3 - k) := by
  unfold byt
  rw [i_and 8 (by decide) 255 (by decide) ⟨by decide, by decide⟩]
  have hs : shrI x (24 - 8 * ((3 - k : Nat) : Int)) = x / 2 ^ (8 * k) := by
    rw [show (24 - 8 * ((3 - k : Nat) : Int)) = ((8 * k : Nat) : Int) by omega]
    exact i_shr (8 * k) (by omega) h
  rw [hs, i2c_id (by
    have e : (2 : Int) ^ 8 = 256 := by decide
    rw [e]
    omega)]
  have k4 : k = 0 ∨ k = 1 ∨ k = 2 ∨ k = 3 := by omega
  rcases k4 with z | z | z | z <;> subst z
  · show ushrI x 0 % 2 ^ 8 = x / 2 ^ 0 % 256
    rw [u_sh0 h]
    show x % 256 = x / 1 % 256
    omega
  · show ushrI x ((8 : Nat) : Int) % 2 ^ 8 = x / 2 ^ 8 % 256
    rw [u_shr h 8 (by omega)]
    show x % 4294967296 / 256 % 256 = x / 256 % 256
    omega
  · show ushrI x ((16 : Nat) : Int) % 2 ^ 8 = x / 2 ^ 16 % 256
    rw [u_shr h 16 (by omega)]
    show x % 4294967296 / 65536 % 256 = x / 65536 % 256
    omega
  · show ushrI x ((24 : Nat) : Int) % 2 ^ 8 = x / 2 ^ 24 % 256
    rw [u_shr h 24 (by omega)]
    show x % 4294967296 / 16777216 % 256 = x / 16777216 % 256
    omega
/-- the tape: n characters c9 in an array A of K places -/
def Tap (c9 : Nat → Int) (M : mM) (t A K n : Nat) : Prop := (mK M t = 1 ∧ mR M t 0 = A ∧ mI M t 1 = ((n : Nat) : Int)) ∧ (mK M A = 32 ∧ mN M A = K) ∧ (t ≠ A ∧ t < mZ M ∧ A < mZ M) ∧ (n ≤ K ∧ n ≤ 16384 ∧ 20 ≤ K ∧ K ≤ 32768) ∧ ∀ j, j < n → (0 ≤ mI M A j ∧ mI M A j < 65536) ∧ mI M A j = c9 j
theorem Tap.ch (h : Tap c9 M t A K n) (e : ∀ j, j < n → c9 j = c8 j) : Tap c8 M t A K n := ⟨h.1, h.2.1, h.2.2.1, h.2.2.2.1, fun j hj => ⟨(h.2.2.2.2 j hj).1, by rw [(h.2.2.2.2 j hj).2, e j hj]⟩⟩
def up9 (c : Nat → Int) (n : Nat) (v : Int) : Nat → Int := fun j => if j = n then v else c j
def Sta2 (t A x : Nat) : Prop := x = t ∨ x = A
/-- characters were put, m there are now -/
def pfQ (c9 : Nat → Int) (t A K : Nat) (M : mM) (m : Nat) (M' : mM) : Prop := mOk M' ∧ FI (Sta2 t A) M M' ∧ Tap c9 M' t A K m ∧ ∀ i, i ≠ 1 → mI M' t i = mI M t i
theorem pf_put {v : Int} (h1 : mOk M) (h : Tap c9 M t A K n) (hn : n + 1 ≤ K ∧ n + 1 ≤ 16384) (hv : 0 ≤ v ∧ v < 65536) (e1 : M1 = mUI M t 1 (((n : Nat) : Int) + 1)) (e2 : M2 = mUI M1 A n v) : pfQ (up9 c9 n v) t A K M (n + 1) M2 := by
  obtain ⟨⟨k1, k2, k3⟩, ⟨a1, a2⟩, ⟨n1, n2, n3⟩, ⟨b1, b2, b3, b4⟩, ch⟩ := h
  have f1 : FI (Sta2 t A) M M1 := by rw [e1]; exact FI.ui (Or.inl rfl)
  have f2 : FI (Sta2 t A) M1 M2 := by rw [e2]; exact FI.ui (Or.inr rfl)
  have ff := f1.trans f2
  have o2 : mOk M2 := by rw [e2]; exact mOk_UI (by rw [e1]; exact mOk_UI h1 ⟨by omega, by omega⟩) ⟨by omega, by omega⟩
  have ti : ∀ i, mI M2 t i = if i = 1 then ((n : Nat) : Int) + 1 else mI M t i := fun i => by
    rw [mI_ui t i e2, if_neg (fun u => n1 u.1), mI_ui t i e1]
    by_cases c : i = 1
    · rw [if_pos ⟨rfl, c⟩, if_pos c]
    · rw [if_neg (fun u => c u.2), if_neg c]
  refine ⟨o2, ff, ⟨⟨by rw [ff.1]; exact k1, by rw [ff.2.2.1]; exact k2, by rw [ti, if_pos rfl]; omega⟩, ⟨by rw [ff.1]; exact a1, by rw [ff.2.1]; exact a2⟩, by rw [ff.2.2.2.2.1]; exact ⟨n1, n2, n3⟩, by omega, fun j hj => ?_⟩, fun i hi => by rw [ti, if_neg hi]⟩
  rw [mI_ui A j e2]
  by_cases c : j = n
  · rw [if_pos ⟨rfl, c⟩]; exact ⟨hv, (if_pos c : up9 c9 n v j = v).symm⟩
  · rw [if_neg (fun u => c u.2), mI_ui A j e1, if_neg (fun u => n1 u.1.symm)]
    exact ⟨(ch j (by omega)).1, by rw [(ch j (by omega)).2]; exact (if_neg c : up9 c9 n v j = c9 j).symm⟩
theorem pfQ.trans {m m' : Nat} (h : pfQ c9 t A K M m M1) (k : pfQ c8 t A K M1 m' M2) : pfQ c8 t A K M m' M2 := ⟨k.1, h.2.1.trans k.2.1, k.2.2.1, fun i hi => by rw [k.2.2.2 i hi]; exact h.2.2.2 i hi⟩
theorem s_CA_putFour {l : Int} (il : i32 l) (h1 : mOk M) (h : Tap c9 M t A K n) (hn : n + 4 ≤ K ∧ n + 4 ≤ 16384) : Cv G y_CA_putFour d [vr t, vi l] M (pfQ (f4 c9 n l) t A K M (n + 4)) := by
  refine k_CA_putFour h1 il ?_
  have h := h.ch (c8 := f4 c9 n l) (fun j hj => (if_pos hj : f4 c9 n l j = c9 j).symm)
  have F9 : ∀ k, k ≤ 3 → f4 c9 n l (n + (4 - (k + 1))) = i2cI (andI (ushrI l (8 * (k : Int))) 255) := fun k hk => by
    rw [byt_u il k hk]
    show (if n + (4 - (k + 1)) < n then _ else _) = _
    rw [if_neg (by omega), show n + (4 - (k + 1)) - n = 3 - k by omega]
  generalize f4 c9 n l = c8 at h F9 ⊢
  suffices HH : ∀ (k : Nat) (M1 : mM), k ≤ 4 → mOk M1 → Tap c8 M1 t A K (n + (4 - k)) → (∀ M2, pfQ c8 t A K M1 (n + 4) M2 → pfQ c8 t A K M (n + 4) M2) → h_CA_putFour_3 G d t l (8 * (k : Int) + (-8)) M1 (pfQ c8 t A K M (n + 4)) from HH 4 M (by omega) h1 h (fun M2 q => q)
  intro k
  induction k with
  | zero =>
    intro M1 hk o1 hT hQ
    refine k_CA_putFour_3 o1 il (i32s (by omega) (by omega)) ⟨fun _ => hQ M1 ⟨o1, FI.refl, hT, fun _ _ => rfl⟩, fun u => absurd (by omega) u⟩
  | succ k ih =>
    intro M1 hk o1 hT hQ
    obtain ⟨⟨k1, k2, k3⟩, ⟨a1, a2⟩, -⟩ := id hT
    refine k_CA_putFour_3 o1 il (i32s (by omega) (by omega)) ⟨fun u => absurd u (by omega), fun _ => ?_⟩
    rw [k2, k3]
    refine ⟨k1, i32s (by omega) (by omega), fun M5 e5 => ?_⟩
    have f5 : FI (Sta2 t A) M1 M5 := by rw [e5]; exact FI.ui (Or.inl rfl)
    rw [f5.1, f5.2.1, a2, Int.toNat_natCast]
    refine ⟨a1, ⟨by omega, by omega⟩, i2c_a _, fun M10 e10 => ?_⟩
    have q := pf_put o1 hT ⟨by omega, by omega⟩ (i2c_a _) e5 e10
    have ec : up9 c8 (n + (4 - (k + 1))) (i2cI (andI (ushrI l (8 * ((k + 1 : Nat) : Int) + (-8))) 255)) = c8 := by
      funext j
      unfold up9
      by_cases c : j = n + (4 - (k + 1))
      · rw [if_pos c, c, F9 k (by omega), show 8 * ((k + 1 : Nat) : Int) + (-8) = 8 * (k : Int) by omega]
      · rw [if_neg c]
    rw [ec] at q
    rw [show 8 * ((k + 1 : Nat) : Int) + (-8) + (-8) = 8 * (k : Int) + (-8) by omega]
    refine ih M10 (by omega) q.1 ?_ (fun M2 q2 => hQ M2 (q.trans q2))
    rw [show n + (4 - k) = n + (4 - (k + 1)) + 1 by omega]
    exact q.2.2.1
/-- twenty characters -/
theorem s_pf5 {l1 l2 l3 l4 l5 : Int} {Q : Int → mM → Prop} (i1 : i32 l1) (i2 : i32 l2) (i3 : i32 l3) (i4 : i32 l4) (i5 : i32 l5) (h1 : mOk M) (h : Tap c9 M t A K n) (hn : n + 20 ≤ K ∧ n + 20 ≤ 16384) (hQ : ∀ M', pfQ (fdc c9 n l1 l2 l3 l4 l5) t A K M (n + 20) M' → Q (((n + 20 : Nat) : Int)) M') : Cv G y_CA_putFour d [vr t, vi l1] M (fun M16 => mOk M16 ∧ (mK M16 t = 1 ∧ Cv G y_CA_putFour d [vr t, vi l2] M16 (fun M20 => mOk M20 ∧ (mK M20 t = 1 ∧ Cv G y_CA_putFour d [vr t, vi l3] M20 (fun M24 => mOk M24 ∧ (mK M24 t = 1 ∧ Cv G y_CA_putFour d [vr t, vi l4] M24 (fun M28 => mOk M28 ∧ (mK M28 t = 1 ∧ Cv G y_CA_putFour d [vr t, vi l5] M28 (fun M32 => mOk M32 ∧ (mK M32 t = 1 ∧ Q (mI M32 t 1) M32)))))))))) := by
  refine (s_CA_putFour i1 h1 h (by omega)).mono (fun M16 q1 => ⟨q1.1, q1.2.2.1.1.1, ?_⟩)
  refine (s_CA_putFour i2 q1.1 q1.2.2.1 (by omega)).mono (fun M20 q2 => ⟨q2.1, q2.2.2.1.1.1, ?_⟩)
  refine (s_CA_putFour i3 q2.1 q2.2.2.1 (by omega)).mono (fun M24 q3 => ⟨q3.1, q3.2.2.1.1.1, ?_⟩)
  refine (s_CA_putFour i4 q3.1 q3.2.2.1 (by omega)).mono (fun M28 q4 => ⟨q4.1, q4.2.2.1.1.1, ?_⟩)
  refine (s_CA_putFour i5 q4.1 q4.2.2.1 (by omega)).mono (fun M32 q5 => ⟨q5.1, q5.2.2.1.1.1, ?_⟩)
  have qq := (((q1.trans q2).trans q3).trans q4).trans q5
  rw [q5.2.2.1.1.2.2]
  exact hQ M32 qq
end NCE
end
section
/-! The class's top: the tape grows; feed. -/
section NCF
variable {G : mG} {d t A K n : Nat} {M M' M1 M2 M3 M4 : mM} {c9 c8 : Nat → Int}
theorem FA.cpy {S R : Nat → Prop} {a0 a sp dp m : Nat} (ha : S a) (e : M' = mCpy M a0 a sp dp m) : FA S R M M' := by
  rw [e]
  refine ⟨⟨Nat.le_refl _, Nat.le_refl _⟩, fun x _ => ⟨rfl, rfl, rfl, fun _ => rfl, fun u => ?_⟩⟩
  funext j
  show (if x = a ∧ dp ≤ j ∧ j < dp + m then mI M a0 (sp + (j - dp)) else mI M x j) = mI M x j
  exact if_neg (fun (w : x = a ∧ dp ≤ j ∧ j < dp + m) => u (by rw [w.1]; exact ha))
theorem mI_cpy {a0 a sp dp m : Nat} (b j : Nat) (e : M' = mCpy M a0 a sp dp m) : mI M' b j = if b = a ∧ dp ≤ j ∧ j < dp + m then mI M a0 (sp + (j - dp)) else mI M b j := by
  rw [e]
  rfl
/-- a tape of twice the places: the array x holds the same characters -/
def gtQ (c9 : Nat → Int) (t A K n : Nat) (M : mM) (x : Nat) (M' : mM) : Prop := mOk M' ∧ x = mZ M ∧ (mZ M' = mZ M + 1 ∧ mS M' = mS M + 2 * K) ∧ FA (fun _ => False) (fun _ => False) M M' ∧ (mK M' x = 32 ∧ mN M' x = 2 * K) ∧ ∀ j, j < n → (0 ≤ mI M' x j ∧ mI M' x j < 65536) ∧ mI M' x j = c9 j
theorem s_CA_growTape (h1 : mOk M) (h : Tap c9 M t A K n) : Cr G y_CA_growTape (d + 1) [vr t] M (gtQ c9 t A K n M) := by
  obtain ⟨⟨k1, k2, k3⟩, ⟨a1, a2⟩, ⟨n1, n2, n3⟩, ⟨b1, b2, b3, b4⟩, ch⟩ := h
  refine k_CA_growTape h1 ?_
  rw [k2, a2]
  have ek : Int.toNat (2 * (K : Int)) = 2 * K := by omega
  rw [ek]
  refine ⟨k1, a1, ⟨by omega, by omega⟩, fun M4 e4 => ?_⟩
  have f4 : FA (fun _ => False) (fun _ => False) M M4 := FA.new e4
  have o4 : mOk M4 := by rw [e4]; exact mOk_New h1
  have ct := f4.2 t n2
  have ca := f4.2 A n3
  have z4 : mZ M4 = mZ M + 1 ∧ mS M4 = mS M + 2 * K := by rw [e4]; exact ⟨rfl, rfl⟩
  have kn : mK M4 (mZ M) = 32 ∧ mN M4 (mZ M) = 2 * K := by
    rw [e4]
    exact ⟨if_pos rfl, if_pos rfl⟩
  rw [ct.1, ct.2.2.2.1 id, k2, ca.1, ca.2.1, ct.2.2.2.2 id, k3, a2, kn.2, Int.toNat_natCast]
  have ch4 : ∀ j, j < n → (0 ≤ mI M4 A j ∧ mI M4 A j < 65536) ∧ mI M4 A j = c9 j := fun j hj => by rw [ca.2.2.2.2 id]; exact ch j hj
  refine ⟨k1, a1, ⟨by omega, by omega, by omega, by omega, by omega⟩, fun i hi => by rw [Nat.zero_add]; exact (ch4 i (by omega)).1, fun M10 e10 => ?_⟩
  have f10 : FA (fun x => x = mZ M) (fun _ => False) M4 M10 := FA.cpy rfl e10
  have z10 : mZ M10 = mZ M4 ∧ mS M10 = mS M4 := by rw [e10]; exact ⟨rfl, rfl⟩
  have c10 := f10.2 (mZ M) (by omega)
  refine ⟨by rw [e10]; exact mOk_Cpy o4, rfl, by rw [z10.1, z10.2]; exact z4, f4.trans2 f10 (fun x hx u => ?_) (fun _ _ u => u), ⟨by rw [c10.1]; exact kn.1, by rw [c10.2.1]; exact kn.2⟩, fun j hj => ?_⟩
  · have u' : x = mZ M := u
    omega
  · rw [mI_cpy (mZ M) j e10, if_pos ⟨rfl, by omega, by omega⟩, Nat.zero_add, Nat.sub_zero]
    exact ch4 j hj
/-- what feed comes to -/
def feQ (c9 c8 : Nat → Int) (t A K n : Nat) (M : mM) (r : Int) (M' : mM) : Prop := (r = -1 ∧ 16384 < n + 20 ∧ M' = M) ∨ (r = ((n + 20 : Nat) : Int) ∧ n + 20 ≤ 16384 ∧ ∃ A' K', mOk M' ∧ Tap c8 M' t A' K' (n + 20) ∧ FA (Sta2 t A) (fun x => x = t) M M' ∧ (∀ i, i ≠ 1 → mI M' t i = mI M t i) ∧ (∀ i, i ≠ 0 → mR M' t i = mR M t i) ∧ ((A' = A ∧ K' = K ∧ mZ M' = mZ M ∧ mS M' = mS M) ∨ (A' = mZ M ∧ K' = 2 * K ∧ mZ M' = mZ M + 1 ∧ mS M' = mS M + 2 * K)))
theorem s_CA_feed {l1 l2 l3 l4 l5 : Int} (i1 : i32 l1) (i2 : i32 l2) (i3 : i32 l3) (i4 : i32 l4) (i5 : i32 l5) (h1 : mOk M) (h : Tap c9 M t A K n) : Ci G y_CA_feed (d + 2) [vr t, vi l1, vi l2, vi l3, vi l4, vi l5] M (feQ c9 (fdc c9 n l1 l2 l3 l4 l5) t A K n M) := by
  obtain ⟨⟨k1, k2, k3⟩, ⟨a1, a2⟩, ⟨n1, n2, n3⟩, ⟨b1, b2, b3, b4⟩, ch⟩ := id h
  refine k_CA_feed h1 i1 i2 i3 i4 i5 ?_
  rw [k3, k2, a2]
  refine ⟨k1, i32s (by omega) (by omega), fun c1 => ⟨a1, i32s (by omega) (by omega), fun c2 => ?_, fun c2 => ?_⟩, fun c1 => Or.inl ⟨rfl, by omega, rfl⟩⟩
  · refine s_pf5 i1 i2 i3 i4 i5 h1 h ⟨by omega, by omega⟩ (fun M' q => Or.inr ⟨rfl, by omega, A, K, q.1, q.2.2.1, q.2.1.fa, q.2.2.2, fun i _ => by rw [q.2.1.2.2.1], Or.inl ⟨rfl, rfl, q.2.1.2.2.2.2.1, q.2.1.2.2.2.2.2.1⟩⟩)
  · refine (s_CA_growTape (d := d) h1 h).mono (fun x M36 q => ?_)
    obtain ⟨o36, ex, ⟨z36, s36⟩, f36, ⟨kx, nx⟩, cx⟩ := q
    have ct := f36.2 t n2
    refine ⟨o36, by rw [ct.1]; exact k1, fun M40 e40 => ?_⟩
    have f40 : FA (fun _ => False) (fun x => x = t) M36 M40 := FA.ur rfl e40
    have o40 : mOk M40 := by rw [e40]; exact mOk_UR o36
    have z40 : mZ M40 = mZ M36 ∧ mS M40 = mS M36 := by rw [e40]; exact ⟨rfl, rfl⟩
    have ct2 := f40.2 t (by omega)
    have cx2 := f40.2 x (by omega)
    have r40 : ∀ i, mR M40 t i = if i = 0 then x else mR M36 t i := fun i => by
      rw [e40]
      show (if t = t ∧ i = 0 then x else mR M36 t i) = _
      by_cases c : i = 0
      · rw [if_pos ⟨rfl, c⟩, if_pos c]
      · rw [if_neg (fun u => c u.2), if_neg c]
    have i40 : mI M40 t = mI M t := by rw [ct2.2.2.2.2 id, ct.2.2.2.2 id]
    have T40 : Tap c9 M40 t x (2 * K) n := by
      refine ⟨⟨by rw [ct2.1, ct.1]; exact k1, by rw [r40, if_pos rfl], by rw [i40]; exact k3⟩, ⟨by rw [cx2.1]; exact kx, by rw [cx2.2.1]; exact nx⟩, ⟨by omega, by omega, by omega⟩, by omega, fun j hj => ?_⟩
      rw [cx2.2.2.2.2 id]
      exact cx j hj
    refine s_pf5 i1 i2 i3 i4 i5 o40 T40 ⟨by omega, by omega⟩ (fun M' q => Or.inr ⟨rfl, by omega, x, 2 * K, q.1, q.2.2.1, ?_, fun i hi => by rw [q.2.2.2 i hi, i40], fun i hi => by rw [q.2.1.2.2.1, r40, if_neg hi, ct.2.2.2.1 id], Or.inr ⟨ex, rfl, by rw [q.2.1.2.2.2.2.1]; omega, by rw [q.2.1.2.2.2.2.2.1]; omega⟩⟩)
    have g1 : FA (Sta2 t A) (fun x => x = t) M M40 := (f36.mono (fun _ _ u => u.elim) (fun _ _ u => u.elim)).trans2 f40 (fun _ _ u => u.elim) (fun _ _ u => u)
    refine g1.trans2 (q.2.1.fa (R := fun _ => False)) (fun y hy u => ?_) (fun _ _ u => u.elim)
    rcases u with u | u
    · exact Or.inl u
    · omega
end NCF
end
section
/-! The class's top: rows of a table that is known; compare. -/
section NCG
variable {G : mG} {d t g s z b f f' v v0 v1 v2 R R0 R1 R2 k k0 k1 k2 cn cc bc : Nat} {M M' : mM} {L : List Nat} {W : Nat → Nat}
/-- a table of k rows, all from the cell b on (what the constructor made lies below); once it is known its first cn rows are small, their sharers 1 -/
def Tv (L : List Nat) (M : mM) (b v R k cn : Nat) : Prop := RwT L M v R k ∧ (∀ i, i < k → b ≤ mR M R i) ∧ (mI M v 1 ≠ 0 → cn ≤ k ∧ Rsm M R cn 17 ∧ Rt1 M R cn)
theorem Tv.tb (h : Tv L M b v R k cn) : Tbl3 M v cn := by
  obtain ⟨⟨h1, h2, h3, h4, -⟩, -, h5⟩ := h
  exact ⟨h1, by rw [h2]; exact h3, fun u => by rw [h2, h4]; exact (h5 u).1⟩
/-- what a row of a known table is -/
def Rw1 (L : List Nat) (M : mM) (b f : Nat) : Prop := FrL L M f ∧ b ≤ f ∧ Osz M f 17 ∧ (nv M (f + 1) < 2 ^ (30 * 17) ∧ nv M (f + 3) < 2 ^ (30 * 17)) ∧ mI M f 2 = 1
theorem Tv.row (hF : NF L W M) (h : Tv L M b v R k cn) (r : RowK M v cn f) : Rw1 L M b f := by
  obtain ⟨⟨h1, h2, h3, h4, h5, h6⟩, h7, h8⟩ := h
  obtain ⟨kn, i, hi, e⟩ := r
  obtain ⟨ck, rs, rt⟩ := h8 kn
  rw [h2] at e
  have fl := h6 i (by omega)
  have ap := h7 i (by omega)
  have sm := rs i hi
  have t1 := rt i hi
  rw [← e] at fl ap sm t1
  exact ⟨fl, ap, ⟨hF.szv fl.2.1 sm.2.2, hF.szv fl.2.2 sm.2.1, by omega⟩, ⟨sm.2.2, sm.2.1⟩, t1⟩
/-- the top's three tables at rest -/
def Tv3 (L : List Nat) (M : mM) (t b v0 v1 v2 R0 R1 R2 k0 k1 k2 cn : Nat) : Prop := (mR M t 11 = v0 ∧ mR M t 12 = v1 ∧ mR M t 14 = v2) ∧ Tv L M b v0 R0 k0 cn ∧ Tv L M b v1 R1 k1 cn ∧ Tv L M b v2 R2 k2 cn
theorem s_fo1 {l1 l2 : Int} (i1 : i32 l1) (i2 : i32 l2) (hF : NF L W M) (h : Tg M t g cn cc bc) (h3 : Tv3 L M t b v0 v1 v2 R0 R1 R2 k0 k1 k2 cn) : Cr G y_CA_fractionOf (d + 1) [vr t, vi l1, vi l2] M (fun f M' => M' = M ∧ (f ≠ 0 → Rw1 L M b f)) := by
  obtain ⟨e, a0, a1, a2⟩ := h3
  refine (s_CA_fractionOf (d := d) i1 i2 h ⟨e, a0.tb, a1.tb, a2.tb⟩).mono (fun f M' q => ⟨q.1, fun u => ?_⟩)
  rcases q.2 with w | w | w | w
  · exact absurd w u
  · exact a0.row hF w
  · exact a1.row hF w
  · exact a2.row hF w
theorem s_CA_compare {l1 l2 l3 l4 : Int} (i1 : i32 l1) (i2 : i32 l2) (i3 : i32 l3) (i4 : i32 l4) (hF : NF L W M) (hS : SK L M (s + 1)) (h : Tg M t g cn cc bc) (hs : mR M t 10 = s ∧ mK M s = 8 ∧ mR M s 0 = s + 1) (h3 : Tv3 L M t b v0 v1 v2 R0 R1 R2 k0 k1 k2 cn) (hb : s + 134 < b) (w9 : 35 ≤ W (s + 1 + 9)) (w11 : 35 ≤ W (s + 1 + 11)) : Ci G y_CA_compare (d + 6) [vr t, vi l1, vi l2, vi l3, vi l4] M (fun x M' => i32 x ∧ (M' = M ∨ NL L W (Tor (s + 1)) (fun _ => False) False (s + 1) M M')) := by
  have h1 := h.1
  have t1 := h.2.1.1
  refine k_CA_compare h1 i1 i2 i3 i4 ⟨t1, (s_fo1 (d := d + 4) i1 i2 hF h h3).mono (fun f M2 q => ?_)⟩
  obtain ⟨e, r1⟩ := q
  subst e
  refine ⟨h1, t1, (s_fo1 (d := d + 4) i3 i4 hF h h3).mono (fun f' M2' q => ?_)⟩
  obtain ⟨e, r2⟩ := q
  subst e
  refine ⟨h1, fun _ => ⟨⟨by decide, by decide⟩, Or.inl rfl⟩, fun u => ?_⟩
  obtain ⟨a1, a2, a3, -⟩ := r1 (fun w => u (Or.inl w))
  obtain ⟨b1, b2, b3, -⟩ := r2 (fun w => u (Or.inr w))
  have na : ∀ {x : Nat}, b < x → ¬ Tor (s + 1) x := fun n w => by unfold Tor at w; omega
  rw [hs.1, hs.2.2]
  refine ⟨t1, hs.2.1, hS.1.1, (f_Sc_order (d := d) ⟨h1, hF, hS, a1, b1⟩ a3 b3 ⟨na (by omega), na (by omega)⟩ ⟨na (by omega), na (by omega)⟩ w9 w11).mono (fun x M' q => ?_)⟩
  have ix : i32 x := by rcases q.2 with w | w | w <;> (rw [w]; exact ⟨by decide, by decide⟩)
  exact ⟨ix, q.1.ok, ix, Or.inr q.1⟩
end NCG
end
section
/-! The class's top: billionths. -/
section NCH
variable {G : mG} {d t g s b f n h v0 v1 v2 R0 R1 R2 k0 k1 k2 cn cc bc : Nat} {M M' M1 : mM} {L : List Nat} {W : Nat → Nat}
/-- the top's own numbers: n the number, h the fraction that is shown; all below b -/
def Shn (L : List Nat) (M : mM) (t s n h b : Nat) : Prop := (mK M t = 1 ∧ mR M t 10 = s ∧ mR M t 15 = n ∧ mR M t 16 = h) ∧ (mK M s = 8 ∧ mR M s 0 = s + 1) ∧ (n ∈ L ∧ FrL L M h) ∧ (Oc L M t ∧ Oc L M s ∧ t ≠ s + 1) ∧ (s + 134 < n ∧ n < h ∧ h + 4 < b)
/-- the numbers that showing may change -/
def Tsh (s n h x : Nat) : Prop := T4 (s + 1) x ∨ x = n ∨ x = h + 1 ∨ x = h + 3
theorem Shn.nx {T C : Nat → Prop} (hh : Shn L M t s n h b) (q : NX L W T C False (s + 1) M M') (hF : NF L W M) : Shn L M' t s n h b := by
  obtain ⟨⟨a1, a2, a3, a4⟩, ⟨b1, b2⟩, ⟨c1, c2⟩, ⟨d1, d2, d3⟩, e⟩ := hh
  have ot := q.oth d1 d3
  have os := q.oth d2 (by omega)
  exact ⟨⟨by rw [ot.1]; exact a1, by rw [ot.2.2.1]; exact a2, by rw [ot.2.2.1]; exact a3, by rw [ot.2.2.1]; exact a4⟩, ⟨by rw [os.1]; exact b1, by rw [os.2.2.1]; exact b2⟩, ⟨c1, (q.frl hF c2).1⟩, ⟨q.oc hF d1, q.oc hF d2, d3⟩, e⟩
theorem bl_18 (x : Int) (h : x < 2 ^ (30 * 17)) : 1000000000 * x < 2 ^ (30 * 18) := by
  have e : (2 : Int) ^ (30 * 18) = 1073741824 * 2 ^ (30 * 17) := by decide +kernel
  have p : (0 : Int) < 2 ^ (30 * 17) := by decide +kernel
  rw [e]
  generalize (2 : Int) ^ (30 * 17) = Y at h p
  omega
theorem s_CA_billionths {l1 l2 : Int} (i1 : i32 l1) (i2 : i32 l2) (hF : NF L W M) (hS : SK L M (s + 1)) (h0 : Tg M t g cn cc bc) (hh : Shn L M t s n h b) (h3 : Tv3 L M t b v0 v1 v2 R0 R1 R2 k0 k1 k2 cn) (hW : 20 ≤ W n ∧ 17 ≤ W (h + 1) ∧ 17 ≤ W (h + 3) ∧ 19 ≤ W (s + 1 + 5) ∧ 18 ≤ W (s + 1 + 7)) : Ci G y_CA_billionths (d + 5) [vr t, vi l1, vi l2] M (fun x M' => i32 x ∧ (M' = M ∨ NX L W (Tsh s n h) (fun x => x = h) False (s + 1) M M')) := by
  have h1 := h0.1
  obtain ⟨⟨a1, a2, a3, a4⟩, ⟨b1, b2⟩, ⟨c1, c2⟩, -, ⟨e1, e2, e3⟩⟩ := id hh
  obtain ⟨w1, w2, w3, w4, w5⟩ := hW
  refine k_CA_billionths h1 i1 i2 ⟨a1, (s_fo1 (d := d + 3) i1 i2 hF h0 h3).mono (fun f M2 q => ?_)⟩
  obtain ⟨e, r1⟩ := q
  subst e
  refine ⟨h1, fun _ => ⟨⟨by decide, by decide⟩, Or.inl rfl⟩, fun u => ?_⟩
  obtain ⟨x1, x2, x3, x4, x5⟩ := r1 u
  rw [a4]
  have y1 := x3.1
  have y2 := x3.2.1
  refine ⟨a1, c2.1.1, (f_Fr_put1 (d := d + 2) (z := s + 1) h1 hF c2 x1 (by omega) (by omega) (by omega) ⟨hS.1.2, hS.1.1⟩ (by omega) (by omega)).mono (fun M9 q => ?_)⟩
  obtain ⟨q1, q2, q3, q4⟩ := q
  have X9 := q1.nx hF
  have S9 := hh.nx X9 hF
  have F9 := X9.nf
  have K9 := X9.sk hF hS
  obtain ⟨⟨a1', a2', a3', a4'⟩, -, ⟨c1', c2'⟩, -⟩ := id S9
  have oc9 : ∀ x, x = h → Oc L M9 x := fun x hx => X9.oc hF (X9.2.1.2.1 x hx)
  rw [a4', a3', c2'.1.2.1.1]
  have z1 : sz M9 (h + 1) ≤ 17 := F9.szv c2'.2.1 (by rw [q2]; exact x4.1)
  refine ⟨q1.ok, a1', c2'.1.1, F9.kd c1', (f_put1 (d := d + 3) q1.ok F9 c1' c2'.2.1 (by omega) (by omega)).mono (fun M15 q => ?_)⟩
  obtain ⟨p1, p2⟩ := q
  have X15 : NX L W (fun x => x = n) (fun x => x = h) False (s + 1) M9 M15 := p1.nx oc9 ⟨K9.1.2, K9.1.1⟩
  have S15 := S9.nx X15 F9
  have F15 := X15.nf
  have K15 := X15.sk F9 K9
  obtain ⟨⟨a1', a2', a3', a4'⟩, -, ⟨c1', c2'⟩, -⟩ := id S15
  rw [a3']
  have n15 : nv M15 n < 2 ^ (30 * 17) := by rw [p2, q2]; exact x4.1
  have z2 : sz M15 n ≤ 17 := F15.szv c1' n15
  refine ⟨p1.ok, a1', F15.kd c1', (f_multiply (d := d + 2) ⟨by decide, by decide⟩ p1.ok F15 c1' (by omega)).mono (fun M20 q => ?_)⟩
  obtain ⟨m1, m2⟩ := q
  have X20 : NX L W (fun x => x = n) (fun x => x = h) False (s + 1) M15 M20 := m1.nx (fun x hx => X15.oc F9 (oc9 x hx)) ⟨K15.1.2, K15.1.1⟩
  have S20 := S15.nx X20 F15
  have F20 := X20.nf
  have K20 := X20.sk F15 K15
  obtain ⟨⟨a1', a2', a3', a4'⟩, ⟨b1', b2'⟩, ⟨c1', c2'⟩, -⟩ := id S20
  have z3 : sz M20 n ≤ 18 := F20.szv c1' (by rw [m2]; exact bl_18 _ n15)
  have h15 := X15.num F9 c2'.2.2 (fun w => by have w' : h + 3 = n := w; omega)
  have h20 := X20.num F15 c2'.2.2 (fun w => by have w' : h + 3 = n := w; omega)
  have z4 : sz M20 (h + 3) ≤ 17 := F20.szv c2'.2.2 (by rw [h20.2.2, h15.2.2, q3]; exact x4.2)
  have t4 : ∀ x, s + 134 < x → ¬ T4 (s + 1) x := fun x hx w => by unfold T4 at w; omega
  rw [a2', a3', a4', b2', c2'.1.2.1.2]
  refine ⟨m1.ok, a1', b1', c2'.1.1, K20.1.1, (f_wholePartZ (d := d) m1.ok F20 K20 c1' c2'.2.2 (by omega) (t4 _ e1) (t4 _ (by omega)) (by omega) (by omega) (by omega)).mono (fun x M27 q => ?_)⟩
  obtain ⟨o1, o2, o3⟩ := q
  have ix : i32 x := ⟨by omega, by omega⟩
  have X27 : NX L W (fun x => x = n ∨ x = s + 1 + 5 ∨ x = s + 1 + 7) (fun x => x = h) False (s + 1) M20 M27 := o1.nx (fun x hx => X20.oc F15 (X15.oc F9 (oc9 x hx))) ⟨K20.1.2, K20.1.1⟩
  obtain ⟨-, -, -, -, -, ⟨j1, j3, j5, j7, -⟩, -⟩ := id hS
  have TL : ∀ x, Tsh s n h x → x ∈ L := fun x hx => by
    rcases hx with (w | w | w | w) | w | w | w
    · rw [w]; exact j1
    · rw [w]; exact j3
    · rw [w]; exact j5
    · rw [w]; exact j7
    · rw [w]; exact c1
    · rw [w]; exact c2.2.1
    · rw [w]; exact c2.2.2
  have O9 := oc9
  have O15 : ∀ x, x = h → Oc L M15 x := fun x hx => X15.oc F9 (oc9 x hx)
  have O20 : ∀ x, x = h → Oc L M20 x := fun x hx => X20.oc F15 (O15 x hx)
  have Y1 : NX L W (Tsh s n h) (fun x => x = h) False (s + 1) M2 M9 := X9.mono hF (fun x w => Or.inr (Or.inr w)) TL (fun x w => w) (fun x w => X9.2.1.2.1 x w) id
  have Y2 : NX L W (Tsh s n h) (fun x => x = h) False (s + 1) M9 M15 := X15.mono F9 (fun x w => Or.inr (Or.inl w)) TL (fun x w => w) O9 id
  have Y3 : NX L W (Tsh s n h) (fun x => x = h) False (s + 1) M15 M20 := X20.mono F15 (fun x w => Or.inr (Or.inl w)) TL (fun x w => w) O15 id
  have Y4 : NX L W (Tsh s n h) (fun x => x = h) False (s + 1) M20 M27 := X27.mono F20 (fun x w => w.elim (fun w => Or.inr (Or.inl w)) (fun w => Or.inl (Or.inr (Or.inr w)))) TL (fun x w => w) O20 id
  exact ⟨ix, o1.ok, ix, Or.inr (((Y1.trans Y2).trans Y3).trans Y4)⟩
end NCH
end
section
/-! The class's top: a fraction brought to least terms, also with 0 below. -/
section NCI
variable {G : mG} {d b c z n m w S x y B u g a R cn f s : Nat} {M M0 M' M1 M2 M3 : mM} {L : List Nat} {W : Nat → Nat} {T T' I I' : Nat → Prop} {sh t : Int}
/-- as rdQ2, and a bound below for every fraction -/
def rdQ3 (L : List Nat) (W : Nat → Nat) (z f : Nat) (t A V : Int) (M M' : mM) : Prop := NL L W (Tre z f) (fun x => x = f) False z M M' ∧ mI M' f 2 = 1 ∧ (0 < V → 0 < nv M' (f + 3)) ∧ nv M' (f + 1) ≤ A ∧ (0 < V → nv M' (f + 3) ≤ t * V) ∧ (A ≤ t * V → nv M' (f + 1) ≤ nv M' (f + 3)) ∧ (nv M' (f + 3) ≤ 1 ∨ nv M' (f + 3) ≤ t * V)
theorem f_reduce3 (h : Rds L W z f M) (nf : ¬ T4 z (f + 1) ∧ ¬ T4 z (f + 3)) (ht : mI M f 2 = t) (t1 : 1 ≤ t ∧ t < 1073741824) (s1 : sz M (f + 1) ≤ s) (s3 : sz M (f + 3) ≤ s) (hs : s ≤ 15000) (hW : ∀ x, Tre z f x → s + 3 ≤ W x) : Cv G y_Sc_reduce (d + 5) [vr z, vr f] M (rdQ3 L W z f t (nv M (f + 1)) (nv M (f + 3)) M) := by
  obtain ⟨⟨k1, k2⟩, ⟨r2, r3⟩, ⟨f0, f1⟩, m5, m7, mf1, mf3⟩ := h.pl
  have hF := h.2.1
  have w1 := hW _ (Or.inr (Or.inl rfl))
  have w3 := hW _ (Or.inr (Or.inr rfl))
  have f13 : f + 3 ≠ f + 1 := nez (by decide)
  have A0 := hF.nn0 mf1
  refine k_Sc_reduce h.1 ?_
  rw [f1, ht]
  refine ⟨k2, hF.kd mf3, (f_multiply (d := d + 2) t1 h.1 hF mf3 (by omega)).mono (fun M3 k => ?_)⟩
  obtain ⟨c1, v1⟩ := k
  obtain ⟨n1, H1⟩ := h.st (Or.inr (Or.inr rfl)) c1
  have a1 := (c1.num hF mf1 (fun e => f13 e.symm)).2.2.2
  refine ⟨c1.ok, H1.2.2.2.1.1, fun M7 e7 => ?_⟩
  obtain ⟨n2, t2, vv⟩ := nl_times (T := Tre z f) (I := fun x => x = f) (r := False) (z := z) c1.ok H1.2.1 H1.2.2.2 H1.2.2.1.z9 ⟨by decide, by decide⟩ e7 h.tre rfl H1.iw
  have H2 := H1.nl n2
  have N2 := n1.trans n2
  have F2 := H2.2.1
  have A2 : nv M7 (f + 1) = nv M (f + 1) := by rw [vv _ mf1, a1.2.1]
  have V2 : nv M7 (f + 3) = t * nv M (f + 3) := by rw [vv _ mf3, v1]
  have Vn := hF.nn0 mf3
  have Vp : 0 < nv M (f + 3) → 0 < t * nv M (f + 3) := fun V0 => Int.mul_pos (by omega) V0
  obtain ⟨⟨k1, k2⟩, ⟨r2, r3⟩, ⟨f0, f1⟩, -⟩ := H2.pl
  rw [f0, f1, (F2.nt mf1).2.1]
  refine ⟨F2.kd mf1, fun y => ⟨F2.kd mf3, (f_put0 (d := d + 4) ⟨by decide, by decide⟩ H2.1 F2 mf3).mono (fun M13 k => ?_)⟩, fun y => ⟨k1, ?_⟩⟩
  · obtain ⟨c3, v3⟩ := k
    obtain ⟨n3, H3⟩ := H2.st (Or.inr (Or.inr rfl)) c3
    have z0 : nv M7 (f + 1) = 0 := (F2.sz0 mf1).1 (by omega)
    have z1 := (c3.v F2 mf1 (fun e => f13 e.symm)).trans z0
    have ti : mI M13 f = mI M7 f := ((c3.nl (I := fun _ => False) (r := False) noI H2.2.2.1.z9).frp F2 H2.2.2.2.1).2 (fun e => e)
    exact ⟨c3.ok, N2.trans n3, by rw [ti]; exact t2, fun _ => by rw [v3]; decide, by rw [z1]; exact A0, fun V0 => by rw [v3]; exact Vp V0, fun _ => by rw [z1, v3]; decide, Or.inl (by rw [v3]; decide)⟩
  · have Ap : 0 < nv M (f + 1) := Classical.byContradiction (fun u => y (by
      have := (F2.sz0 mf1).2 (by rw [A2]; omega)
      omega))
    have sv : sz M7 (f + 3) ≤ s + 1 := F2.szv mf3 (by rw [V2]; exact (mul_sz ⟨Vn, Int.lt_of_lt_of_le (hF.vlt mf3) (p30m s3)⟩ t1).2)
    have sa : sz M7 (f + 1) ≤ s := F2.szv mf1 (by rw [A2]; exact Int.lt_of_lt_of_le (hF.vlt mf1) (p30m s1))
    have h1 := hW (z + 1) (Or.inl (Or.inl rfl))
    have h3 := hW (z + 3) (Or.inl (Or.inr (Or.inl rfl)))
    have h5 := hW (z + 5) (Or.inl (Or.inr (Or.inr (Or.inl rfl))))
    have h7 := hW (z + 7) (Or.inl (Or.inr (Or.inr (Or.inr rfl))))
    refine (f_common (d := d) (S := s + 1) H2.1 F2 H2.2.2.1 mf1 mf3 nf.1 nf.2 (Or.inl (by rw [A2]; exact Ap)) (by omega) sv (by omega) ⟨h1, h3, h5, h7⟩).mono (fun r M17 k => ?_)
    obtain ⟨er, N17, q0, d1, d2, -⟩ := k
    have n3 : NL L W (Tre z f) (fun x => x = f) False z M7 M17 := N17.mono F2 (fun t ht => Or.inl ht) h.tre (fun _ e => e.elim) H2.iw (fun e => e)
    have H3 := H2.nl n3
    have A3 := (N17.num F2 mf1 nf.1).2
    have V3 := (N17.num F2 mf3 nf.2).2
    have t3 : mI M17 f 2 = 1 := by rw [(N17.frp F2 H2.2.2.2.1).2 (fun e => e)]; exact t2
    have mr : r ∈ L := h.2.2.1.t4 r (er.elim Or.inl (fun e => Or.inr (Or.inl e)))
    rw [A2] at A3 d1
    rw [V2] at V3 d2
    refine ⟨H3.1, H3.2.1.kd mr, (s_Na_isOne (d := d + 4) H3.1 (H3.2.1.nt mr)).mono (fun x22 M21 k => ?_)⟩
    obtain ⟨e21, x01, -⟩ := k
    rw [e21]
    refine ⟨m_b32 x01, H3.1, fun _ => ?_, fun _ => ?_⟩
    · exact s_rdDiv (d := d) (s := s + 3) H3 er nf A3.2 V3.2 rfl q0 d1 d2 Ap (by omega) (by omega) w1 w3 h5 h7 (fun M' Q1 Q2 g1 g2 g3 g4 g5 g6 g7 g8 => by
        have hq : 1 ≤ nv M17 r := q0
        have m1 := Int.mul_le_mul_of_nonneg_right hq g7
        have m2 := Int.mul_le_mul_of_nonneg_right hq g8
        have Q2p : 0 < nv M (f + 3) → 0 < Q2 := fun V0 => Classical.byContradiction (fun u => by
          have V1 := Vp V0
          have : Q2 = 0 := by omega
          rw [this, Int.mul_zero] at g6
          omega)
        refine ⟨(N2.trans n3).trans g1, by rw [g2]; exact t3, fun V0 => by rw [g4]; exact Q2p V0, by rw [g3]; omega, fun _ => by rw [g4]; omega, fun le => ?_, Or.inr (by rw [g4]; omega)⟩
        rw [g3, g4]
        rw [g5, g6] at le
        exact Int.le_of_mul_le_mul_left le q0)
    · exact ⟨N2.trans n3, t3, fun V0 => by rw [V3.2]; exact Vp V0, by rw [A3.2]; exact Int.le_refl _, fun _ => by rw [V3.2]; exact Int.le_refl _, fun le => by rw [A3.2, V3.2]; exact le, Or.inr (by rw [V3.2]; exact Int.le_refl _)⟩
end NCI
end
section
/-! The class's top: print. -/
section NCJ
variable {G : mG} {d t g s b f n h pr v0 v1 v2 R0 R1 R2 k0 k1 k2 cn cc bc : Nat} {M M0 M' M1 : mM} {L : List Nat} {W : Nat → Nat}
def Csh (t pr h x : Nat) : Prop := x = t ∨ x = pr ∨ x = h
theorem Prt.nx2 {T C : Nat → Prop} {z : Nat} (hp : Prt L M t pr n) (q : NX L W T C False z M M') (hF : NF L W M) (nz : t ≠ z ∧ pr ≠ z) (hC : ¬ C pr) : Prt L M' t pr n := by
  obtain ⟨⟨h1, h2, h3⟩, ⟨h4, h5⟩, ⟨h6, h7, h8⟩, h9, h10⟩ := hp
  have ot := q.oth h6 nz.1
  have op := q.oth h7 nz.2
  exact ⟨⟨by rw [ot.1]; exact h1, by rw [ot.2.2.1]; exact h2, by rw [ot.2.2.1]; exact h3⟩, ⟨by rw [op.1]; exact h4, by rw [op.2.1]; exact h5⟩, ⟨q.oc hF h6, q.oc hF h7, h8⟩, h9, fun j hj => by rw [op.2.2.2 hC]; exact h10 j hj⟩
/-- what print comes to -/
def prQ (L : List Nat) (W : Nat → Nat) (s t pr n h : Nat) (M : mM) (x : Int) (M' : mM) : Prop := i32 x ∧ (M' = M ∨ (NX L W (Tsh s n h) (Csh t pr h) False (s + 1) M M' ∧ Prt L M' t pr n ∧ (∃ c : Nat, mI M' t 18 = ((c : Nat) : Int) ∧ c ≤ 325) ∧ ∀ i, i ≠ 18 → mI M' t i = mI M t i))
/-- the second half: the fraction is in least terms -/
theorem s_pr15 (h1 : mOk M) (hF : NF L W M) (hS : SK L M (s + 1)) (hh : Shn L M t s n h b) (hp : Prt L M t pr n) (pz : pr ≠ s + 1) (hA : nv M (h + 1) < 2 ^ (30 * 17)) (hB : nv M (h + 3) < 2 ^ (30 * 17)) (wn : 17 ≤ W n) {Q : Int → mM → Prop} (hQ : ∀ (x : Int) (M' : mM), i32 x → NX L W (fun x => x = n) (Cpr t pr) False (s + 1) M M' → Prt L M' t pr n → (∃ c : Nat, mI M' t 18 = ((c : Nat) : Int) ∧ c ≤ 325) → (∀ i, i ≠ 18 → mI M' t i = mI M t i) → Q x M') : mK M t = 1 ∧ ∀ M19, M19 = mUI M t 18 0 → mK M19 (mR M19 t 16) = 11 ∧ Cv G y_CA_printNumber (d + 2) [vr t, vr (mR M19 (mR M19 t 16) 0)] M19 (fun M22 => mOk M22 ∧ (mK M22 t = 1 ∧ mK M22 (mR M22 t 16) = 11 ∧ mK M22 (mR M22 (mR M22 t 16) 1) = 10 ∧ Ci G y_Na_isOne (d + 2) [vr (mR M22 (mR M22 t 16) 1)] M22 (fun x29 M28 => i32 x29 ∧ mOk M28 ∧ (((x29 = 0) → (mK M28 t = 1 ∧ i32 ((mI M28 t 18) + 1) ∧ ∀ M40, M40 = mUI M28 t 18 ((mI M28 t 18) + 1) → mK M40 (mR M28 t 17) = 32 ∧ ((0 : Int) ≤ mI M28 t 18 ∧ mI M28 t 18 < (mN M40 (mR M28 t 17) : Int)) ∧ ∀ M44, M44 = mUI M40 (mR M28 t 17) (Int.toNat (mI M28 t 18)) 47 → mK M44 (mR M44 t 16) = 11 ∧ Cv G y_CA_printNumber (d + 2) [vr t, vr (mR M44 (mR M44 t 16) 1)] M44 (fun M47 => mOk M47 ∧ (mK M47 t = 1 ∧ Q (mI M47 t 18) M47)))) ∧ (¬ (x29 = 0) → (mK M28 t = 1 ∧ Q (mI M28 t 18) M28)))))) := by
  have nz : t ≠ s + 1 ∧ pr ≠ s + 1 := ⟨hh.2.2.2.1.2.2, pz⟩
  obtain ⟨-, -, ⟨c1, c2⟩, -, ⟨e1, e2, e3⟩⟩ := id hh
  have z9 : s + 1 < mZ M ∧ mK M (s + 1) = 9 := ⟨hS.1.2, hS.1.1⟩
  refine ⟨hh.1.1, fun M19 e19 => ?_⟩
  have f19 : FI (Cpr t pr) M M19 := by rw [e19]; exact FI.ui (Or.inl rfl)
  have o19 : mOk M19 := by rw [e19]; exact mOk_UI h1 ⟨by decide, by decide⟩
  obtain ⟨X19, v19⟩ := f19.nx (T := fun x => x = n) (r := False) (z := s + 1) o19 hF hp.tl hp.cl z9
  have S19 := hh.nx X19 hF
  have t19 : ∀ i, mI M19 t i = if i = 18 then 0 else mI M t i := fun i => by
    rw [mI_ui t i e19]
    by_cases c : i = 18
    · rw [if_pos ⟨rfl, c⟩, if_pos c]
    · rw [if_neg (fun u => c u.2), if_neg c]
  have P19 : Prt L M19 t pr n := hp.nx X19 hF nz (fun j hj => by rw [mI_ui pr j e19, if_neg (fun u => hp.2.2.1.2.2 u.1.symm)]; exact hp.2.2.2.2 j hj)
  rw [S19.1.2.2.2, S19.2.2.1.2.1.2.1.1]
  refine ⟨S19.2.2.1.2.1.1, (s_CA_printNumber (d := d) (st := 0) o19 X19.nf P19 nz X19.z9 c2.2.1 (by omega) (by rw [v19 _ c2.2.1]; exact hA) wn (by rw [t19, if_pos rfl]; rfl) (by decide)).mono (fun M22 q => ?_)⟩
  obtain ⟨X22, P22, c, hc, hcp, oi⟩ := id q
  have S22 := S19.nx X22 X19.nf
  have F22 := X22.nf
  have nB : nv M22 (h + 3) < 2 ^ (30 * 17) := by
    rw [(X22.num X19.nf c2.2.2 (fun w => by have w' : h + 3 = n := w; omega)).2.2, v19 _ c2.2.2]
    exact hB
  rw [S22.1.2.2.2, S22.2.2.1.2.1.2.1.2]
  refine ⟨X22.ok, P22.1.1, S22.2.2.1.2.1.1, F22.kd c2.2.2, (s_Na_isOne (d := d + 2) X22.ok (F22.nt c2.2.2)).mono (fun x29 M28 q2 => ?_)⟩
  obtain ⟨e28, hx, -⟩ := q2
  subst e28
  rw [hc, P22.1.2.2]
  refine ⟨m_b32 hx, X22.ok, fun _ => ⟨P22.1.1, i32s (by omega) (by omega), fun M40 e40 => ?_⟩, fun _ => ⟨P22.1.1, hQ _ _ (i32s (by omega) (by omega)) (X19.trans X22) P22 ⟨c, hc, by omega⟩ (fun i hi => by rw [oi i hi, t19, if_neg hi])⟩⟩
  have f40 : FI (Cpr t pr) M28 M40 := by rw [e40]; exact FI.ui (Or.inl rfl)
  rw [f40.1, f40.2.1, P22.2.1.2, Int.toNat_natCast]
  refine ⟨P22.2.1.1, ⟨by omega, by omega⟩, fun M44 e44 => ?_⟩
  obtain ⟨I44, v44⟩ := pn_put (v := 47) q nz X22.z9 hc hcp (by decide) e40 ⟨by decide, by decide⟩ e44
  obtain ⟨X44, P44, -, -, -, oi44⟩ := id I44
  have S44 := S19.nx X44 X19.nf
  have hc44 : mI M44 t 18 = ((c + 1 : Nat) : Int) := by
    rw [mI_ui t 18 e44, if_neg (fun u => P22.2.2.1.2.2 u.1), mI_ui t 18 e40, if_pos ⟨rfl, rfl⟩]
    omega
  rw [S44.1.2.2.2, S44.2.2.1.2.1.2.1.2]
  refine ⟨S44.2.2.1.2.1.1, (s_CA_printNumber (d := d) (st := c + 1) X44.ok X44.nf P44 nz X44.z9 c2.2.2 (by omega) (by rw [v44 _ c2.2.2]; exact nB) wn hc44 (by omega)).mono (fun M47 q3 => ?_)⟩
  obtain ⟨X47, P47, c', hc', hcp', oi47⟩ := q3
  rw [hc']
  exact ⟨X47.ok, P47.1.1, hQ _ _ (i32s (by omega) (by omega)) ((X19.trans X44).trans X47) P47 ⟨c', hc', by omega⟩ (fun i hi => by rw [oi47 i hi, oi44 i hi, t19, if_neg hi])⟩
end NCJ
end
