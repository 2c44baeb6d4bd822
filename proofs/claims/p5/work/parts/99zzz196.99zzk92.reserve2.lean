section
/-! Tables of fractions: reserve, the whole. -/
section NBE
variable {G : mG} {d a z n m w S B u g R R' cn cnt f F s i k K : Nat} {M M0 M' M1 M2 M3 : mM} {L L' L1 : List Nat} {W : Nat → Nat}
theorem s_rv_cp (h : RvI L W M R k K i L1 M1) (hik : i < k) (hiK : i < K) {v : Nat} (hv : v = mR M R i) (e : M2 = mUR M1 (mZ M) i v) : RvI L W M R k K (i + 1) L1 M2 := by
  obtain ⟨⟨o1, F1⟩, f1, ⟨kz, nz⟩, ⟨z1, s1⟩, rj, fj, ⟨oc, l1, l2⟩, ⟨g1, g2, g3⟩⟩ := h
  have F2 : FA (fun _ => False) (fun x => x = mZ M) M1 M2 := FA.ur rfl e
  have ei : i + 1 - k = i - k := by omega
  have nf2 := nf_ur F1 oc.2.1 e
  have cc : ∀ a, a ∈ L1 → cp M2 a = cp M1 a := fun a ha => ((F1.nt ha).fa F2 (fun e => e) (fun e => e) (fun e' => oc.2.1 (by rw [← e']; exact ha))).cp
  have rr : ∀ a, a ∈ L1 → mR M2 a 0 = mR M1 a 0 := fun a ha => ((F1.nt ha).fa F2 (fun e => e) (fun e => e) (fun e' => oc.2.1 (by rw [← e']; exact ha))).1.2.1
  refine ⟨⟨by rw [e]; exact mOk_UR o1, nf2⟩, f1.trans2 F2 (fun _ _ e => e) (fun x hx e => by have e' : x = mZ M := e; omega), ⟨by rw [e]; exact kz, by rw [e]; exact nz⟩, ⟨by rw [e, ei]; exact z1, by rw [e, ei]; exact s1⟩, fun j hj => ?_, fun j hj1 hj2 => absurd hj2 (by omega), ⟨⟨by rw [e]; exact oc.1, oc.2.1, fun a ha u => oc.2.2 a ha (by rw [← rr a ha]; exact u)⟩, l1, fun x hx => (l2 x hx).imp (fun q => q) (fun q => ⟨q.1, by rw [rr x hx]; exact q.2⟩)⟩, by rw [ei]; exact g1, by rw [ei, psum_congr L1 cc]; exact g2, by rw [ei, psum_congr (g := fun p => cp M1 p / 4) L1 (fun q hq => by show cp M2 q / 4 = cp M1 q / 4; rw [cc q hq])]; exact g3⟩
  rw [e, mR_UR]
  by_cases c : j = i
  · rw [if_pos ⟨rfl, c⟩, c, if_pos hik, hv]
  · rw [if_neg (fun u => c u.2)]
    exact rj j (by omega)
/-- what stood apart stands apart -/
theorem rv_oc {x : Nat} (hF : NF L W M) (F1 : NF L1 W M1) (f1 : FA (fun _ => False) (fun _ => False) M M1) (l2 : ∀ x, x ∈ L1 → x ∈ L ∨ (mZ M < x ∧ mZ M < mR M1 x 0)) (hx : Oc L M x) : Oc L1 M1 x := by
  have zx := hx.1
  refine ⟨Nat.lt_of_lt_of_le hx.1 f1.1.1, fun u => ?_, fun b hb u => ?_⟩
  · rcases l2 x u with e | e
    · exact hx.2.1 e
    · omega
  · rcases l2 b hb with e | e
    · rw [(f1.2 b (hF.lt e).1).2.2.2.1 (fun e => e)] at u
      exact hx.2.2 b e u
    · omega
theorem oc_ur {x y j v : Nat} (h : Oc L M x) (hy : y ∉ L) (e : M' = mUR M y j v) : Oc L M' x := by
  refine ⟨by rw [e]; exact h.1, h.2.1, fun b hb u => h.2.2 b hb ?_⟩
  rw [e, mR_UR, if_neg (fun q => hy (by rw [← q.1]; exact hb))] at u
  exact u
/-- the loop -/
theorem s_rv32 (hF : NF L W M) (hT : RwT L M a R k) (hK : k < K ∧ K ≤ 512 ∧ (2 * k ≤ K ∨ K = 512)) (hc : cnt ≤ K) (hWn : ∀ x, mZ M < x → 2 ≤ W x ∧ W x ≤ 20000) : ∀ (t i : Nat) (L1 : List Nat) (M1 : mM), K ≤ i + t → i ≤ K → RvI L W M R k K i L1 M1 → h_Fs_reserve_32 G (d + 2) a (mZ M) i M1 (rvQ L W a M R k cnt) := by
  obtain ⟨t1, t2, t3, t4, ⟨t5, t6⟩, t7⟩ := id hT
  have za := t5.1
  have zR := t6.1
  intro t
  induction t with
  | zero =>
    intro i L1 M1 h1 h2 hI
    have ei : i = K := by omega
    subst ei
    obtain ⟨⟨o1, F1⟩, f1, ⟨kz, nz⟩, ⟨z1, s1⟩, rj, fj, ⟨oc, l1, l2⟩, ⟨g1, g2, g3⟩⟩ := hI
    refine k_Fs_reserve_32 o1 ⟨by omega, by omega⟩ ?_
    rw [kz, nz]
    refine ⟨rfl, ⟨by omega, by omega⟩, fun _ => ⟨by rw [(f1.2 a za).1]; exact t1, fun M20 e20 => ?_⟩, fun u => absurd (Int.le_refl _) u⟩
    have oa := rv_oc hF F1 f1 l2 t5
    have naL : a ∉ L1 := oa.2.1
    have F20 : FA (fun _ => False) (fun x => x = a) M1 M20 := FA.ur rfl e20
    have nf := nf_ur F1 naL e20
    have ff : FA (fun _ => False) (fun x => x = a) M M20 := (f1.mono (fun _ _ e => e) (fun _ _ e => e.elim)).trans F20
    have cc : ∀ b, b ∈ L1 → cp M20 b = cp M1 b := fun b hb => ((F1.nt hb).fa F20 (fun e => e) (fun e => e) (fun e => naL (by rw [← e]; exact hb))).cp
    have rz : mR M20 (mZ M) = mR M1 (mZ M) := by
      funext j
      rw [e20, mR_UR, if_neg (fun u => by omega)]
    have fr : ∀ {f : Nat}, FrP M1 f → FrP M20 f := fun hf => hf.fa F20 (fun e => by
      have e' := hf.1
      have e'' : mK M1 a = 13 := by rw [(f1.2 a za).1]; exact t1
      rw [e, e''] at e'
      omega)
    refine ⟨L1, mZ M, i, by rw [e20]; exact mOk_UR o1, nf, l1, fun x hx => (l2 x hx).imp (fun q => q) (fun q => ⟨q.1, by rw [((F1.nt hx).fa F20 (fun e => e) (fun e => e) (fun e => naL (by rw [← e]; exact hx))).1.2.1]; exact q.2⟩), ⟨by rw [(ff.2 a za).1]; exact t1, by rw [e20, mR_UR, if_pos ⟨rfl, rfl⟩], by rw [e20]; exact kz, by rw [e20]; exact nz, ⟨oc_ur oa naL e20, oc_ur oc naL e20⟩, fun j hj => ?_⟩, ⟨hc, by omega⟩, ff, fun j hj => by rw [e20, mR_UR, if_neg (fun u => hj u.2), (f1.2 a za).2.2.2.1 (fun e => e)], fun j hj => by rw [rz, rj j (by omega), if_pos hj], fun j hj1 hj2 => ⟨by rw [rz, rj j hj2, if_neg (by omega)], by rw [e20]; exact (fj j hj1 hj2).2⟩, Or.inr ⟨rfl, hK, g1, ⟨by rw [e20]; exact z1, by rw [e20]; exact s1⟩, by rw [psum_congr L1 cc]; exact g2, by rw [psum_congr (g := fun p => cp M1 p / 4) L1 (fun q hq => by show cp M20 q / 4 = cp M1 q / 4; rw [cc q hq])]; exact g3⟩⟩
    rw [rz, rj j hj]
    by_cases c : j < k
    · rw [if_pos c]
      obtain ⟨p1, p2, p3⟩ := t7 j c
      exact ⟨fr (p1.fa f1 (fun e => e)), l1 _ p2, l1 _ p3⟩
    · rw [if_neg c]
      obtain ⟨⟨p1, p2, p3⟩, -⟩ := fj j (by omega) hj
      exact ⟨fr p1, p2, p3⟩
  | succ t ih =>
    intro i L1 M1 h1 h2 hI
    by_cases ei : i = K
    · exact ih i L1 M1 (by omega) h2 hI
    have hiK : i < K := by omega
    obtain ⟨⟨o1, F1⟩, f1, ⟨kz, nz⟩, ⟨z1, s1⟩, rj, fj, -, -⟩ := id hI
    have ra : mR M1 a 0 = R := by rw [(f1.2 a za).2.2.2.1 (fun e => e)]; exact t2
    refine k_Fs_reserve_32 o1 ⟨by omega, by omega⟩ ?_
    rw [kz, nz, ra, (f1.2 R zR).1, (f1.2 R zR).2.1, t3, t4, Int.toNat_natCast, (f1.2 a za).1, show ((i : Int) + 1) = ((i + 1 : Nat) : Int) by omega]
    refine ⟨rfl, ⟨by omega, by omega⟩, fun u => absurd u (by omega), fun _ => ⟨t1, rfl, ⟨by omega, by omega⟩, fun u M33 e33 => (s_rv_new (d := d) hI (by omega) hiK hWn e33).mono (fun M35 q => ?_), fun u => ⟨⟨by omega, by omega⟩, ⟨by omega, by omega⟩, ?_, fun M46 e46 => ?_⟩⟩⟩
    · obtain ⟨q1, q2, q3, q4, q5⟩ := q
      exact ⟨q1, q2, q3, q4, fun M41 e41 => ih (i + 1) _ M41 (by omega) (by omega) (q5 M41 e41)⟩
    · rw [(f1.2 R zR).2.2.2.1 (fun e => e), (f1.2 _ (t7 i (by omega)).1.2.2).1]
      exact (t7 i (by omega)).1.1
    · refine ih (i + 1) L1 M46 (by omega) (by omega) (s_rv_cp hI (by omega) hiK ?_ e46)
      rw [(f1.2 R zR).2.2.2.1 (fun e => e)]
/-- room for cnt fractions -/
theorem f_Fs_reserve (hO : mOk M) (hF : NF L W M) (hT : RwT L M a R k) (hk : k ≤ 512) (hc : cnt ≤ 512) (hWn : ∀ x, mZ M < x → 2 ≤ W x ∧ W x ≤ 20000) : Cv G y_Fs_reserve (d + 3) [vr a, vi cnt] M (rvQ L W a M R k cnt) := by
  obtain ⟨t1, t2, t3, t4, ⟨t5, t6⟩, t7⟩ := id hT
  refine k_Fs_reserve hO ⟨by omega, by omega⟩ ?_
  rw [t2, t4]
  refine ⟨t1, t3, ⟨by omega, by omega⟩, fun u => ?_, fun u => ⟨⟨by omega, by omega⟩, ?_⟩⟩
  · exact ⟨L, R, k, hO, hF, fun _ h => h, fun _ h => Or.inl h, hT, ⟨by omega, Nat.le_refl _⟩, FA.refl, fun _ _ => rfl, fun _ _ => rfl, fun i h1 h2 => absurd h2 (by omega), Or.inl ⟨rfl, rfl, rfl, rfl⟩⟩
  · obtain ⟨K, eK, K1, K2⟩ : ∃ K : Nat, (if (if ((cnt : Nat) : Int) < 2 * ((k : Nat) : Int) then 2 * ((k : Nat) : Int) else ((cnt : Nat) : Int)) < 512 then (if ((cnt : Nat) : Int) < 2 * ((k : Nat) : Int) then 2 * ((k : Nat) : Int) else ((cnt : Nat) : Int)) else 512) = ((K : Nat) : Int) ∧ (k < K ∧ K ≤ 512 ∧ (2 * k ≤ K ∨ K = 512)) ∧ cnt ≤ K := by
      by_cases c1 : ((cnt : Nat) : Int) < 2 * ((k : Nat) : Int)
      · rw [if_pos c1]
        by_cases c2 : 2 * ((k : Nat) : Int) < 512
        · rw [if_pos c2]; exact ⟨2 * k, by omega, by omega, by omega⟩
        · rw [if_neg c2]; exact ⟨512, rfl, by omega, by omega⟩
      · rw [if_neg c1]
        by_cases c2 : ((cnt : Nat) : Int) < 512
        · rw [if_pos c2]; exact ⟨cnt, rfl, by omega, Nat.le_refl _⟩
        · rw [if_neg c2]; exact ⟨512, rfl, by omega, by omega⟩
    rw [eK, Int.toNat_natCast]
    refine ⟨⟨by omega, by omega⟩, fun M9 e9 => ?_⟩
    have f9 : FA (fun _ => False) (fun _ => False) M M9 := FA.new e9
    have nt9 : ∀ b, b ∈ L → Nt M9 b (mR M b 0) (cp M b) (sz M b) := fun b hb => (hF.nt hb).fa f9 (fun e => e) (fun e => e) (fun e => e)
    have nf9 : NF L W M9 := ⟨hF.1, fun b hb => ⟨(nt9 b hb).nn, by rw [(nt9 b hb).cp]; exact (hF.2.1 b hb).2.1, (hF.2.1 b hb).2.2⟩, fun b c hb hc u => hF.2.2 b c hb hc (by rw [← (nt9 b hb).1.2.1, ← (nt9 c hc).1.2.1]; exact u)⟩
    have cc : ∀ b, b ∈ L → cp M9 b = cp M b := fun b hb => (nt9 b hb).cp
    have nz : mZ M ∉ L := fun u => by have := (hF.lt u).1; omega
    refine s_rv32 (d := d) hF hT K1 K2 hWn K 0 L M9 (by omega) (by omega) ⟨⟨by rw [e9]; exact mOk_New hO, nf9⟩, f9, ⟨by rw [e9, mK_New, if_pos rfl], by rw [e9, mN_New, if_pos rfl]⟩, ⟨by rw [e9, mZ_New]; omega, by rw [e9, mS_New]; omega⟩, fun j hj => absurd hj (by omega), fun j _ hj => absurd hj (by omega), ⟨⟨by rw [e9, mZ_New]; omega, nz, fun b hb u => ?_⟩, fun _ h => h, fun _ h => Or.inl h⟩, by omega, ?_, ?_⟩
    · rw [(nt9 b hb).1.2.1] at u
      have := (hF.lt hb).2
      omega
    · rw [psum_congr L cc]; omega
    · rw [psum_congr (g := fun p => cp M p / 4) L (fun q hq => by show cp M9 q / 4 = cp M q / 4; rw [cc q hq])]; omega
end NBE
end
section
/-! Tables of fractions: begin. -/
section NBF
variable {G : mG} {d a z n m w S B u g R R' cn cnt f f' F s i k K : Nat} {M M0 M' M1 M2 M3 : mM} {L L' L1 : List Nat} {W : Nat → Nat} {T I : Nat → Prop} {r : Prop}
/-- two fractions lie apart -/
def Frd (f f' : Nat) : Prop := f ≠ f' ∧ f + 1 ≠ f' + 3 ∧ f + 3 ≠ f' + 1
theorem Frd.sym (h : Frd f f') : Frd f' f := ⟨fun e => h.1 e.symm, fun e => h.2.2 e.symm, fun e => h.2.1 e.symm⟩
theorem Frd.t2 (h : Frd f f') : ¬ T2 f' (f + 1) ∧ ¬ T2 f' (f + 3) := by
  obtain ⟨h1, h2, h3⟩ := h
  unfold T2
  omega
def RwD (M : mM) (R k : Nat) : Prop := ∀ i j, i < k → j < k → i ≠ j → Frd (mR M R i) (mR M R j)
/-- a table in its surroundings -/
def Te (L : List Nat) (W : Nat → Nat) (z g a R k : Nat) (M : mM) : Prop := (mOk M ∧ NF L W M ∧ SK L M z) ∧ (GK9 M g ∧ ∀ i, i ≤ 9 → Oc L M (g + i)) ∧ RwT L M a R k ∧ (∀ i, i < k → Rap z (mR M R i)) ∧ RwD M R k
theorem RwT.ws (h : RwT L M a R k) (hc : cn ≤ k) : Rws L M a R cn := by
  obtain ⟨h1, h2, h3, h4, h5, h6⟩ := h
  exact ⟨h1, h2, h3, by omega, h5, fun i hi => h6 i (by omega)⟩
theorem Te.pe (h : Te L W z g a R k M) (hc : cn ≤ k) : Pe L W z g a R cn M := ⟨h.1, h.2.1, h.2.2.1.ws hc, fun i hi => h.2.2.2.1 i (by omega)⟩
theorem Te.nl (h : Te L W z g a R k M) (q : NL L W T I r z M M') (hS : SK L M' z) (hI : ∀ x, I x → mK M x = 11) : Te L W z g a R k M' ∧ (∀ i, i ≤ 9 → mI M' (g + i) = mI M (g + i)) ∧ mR M' R = mR M R := by
  obtain ⟨t1, t2, t3, t4, t5⟩ := ((h.pe (Nat.le_refl _)).we (w := z + 18) (Or.inl rfl)).tb q hI
  obtain ⟨⟨h1, h2, h3⟩, h4, h5, h6, h7⟩ := h
  obtain ⟨p1, p2, p3, p4, p5, p6⟩ := h5
  obtain ⟨q1, q2, q3, q4, q5, q6⟩ := t4
  refine ⟨⟨⟨q.ok, q.nf, hS⟩, ⟨t1, t2⟩, ⟨q1, q2, q3, ?_, q5, q6⟩, fun i hi => by rw [t5]; exact h6 i hi, fun i j hi hj ij => by rw [t5]; exact h7 i j hi hj ij⟩, t3, t5⟩
  rw [(q.2.2.1.2 R p5.2.1).2.1]
  exact p4
/-- the numbers, and the cells, of the first n rows -/
def Trw (M : mM) (R n x : Nat) : Prop := ∃ i, i < n ∧ T2 (mR M R i) x
def Irw (M : mM) (R n x : Nat) : Prop := ∃ i, i < n ∧ x = mR M R i
theorem Te.trw (h : Te L W z g a R k M) (hn : n ≤ k) : ∀ t, Trw M R n t → t ∈ L := fun t ⟨i, hi, ht⟩ => (h.2.2.1.2.2.2.2.2 i (by omega)).t2 t ht
theorem Te.irw (h : Te L W z g a R k M) (hn : n ≤ k) : ∀ x, Irw M R n x → x < mZ M ∧ mK M x = 11 := fun x ⟨i, hi, e⟩ => by
  have := (h.2.2.1.2.2.2.2.2 i (by omega)).1
  rw [e]
  exact ⟨this.2.2, this.1⟩
/-- one row is written -/
theorem Te.row (h : Te L W z g a R k M) (hi : i < n) (hn : n ≤ k) (q : NL L W (T2 (mR M R i)) (fun x => x = mR M R i) False z M M') : NL L W (Trw M R n) (Irw M R n) False z M M' ∧ Te L W z g a R k M' ∧ (∀ i, i ≤ 9 → mI M' (g + i) = mI M (g + i)) ∧ mR M' R = mR M R := by
  have q' : NL L W (Trw M R n) (Irw M R n) False z M M' := q.mono h.1.2.1 (fun t ht => ⟨i, hi, ht⟩) (h.trw hn) (fun x e => ⟨i, hi, e⟩) (h.irw hn) (fun e => e)
  obtain ⟨e1, e2, e3⟩ := h.nl q' (q.sk h.1.2.1 h.1.2.2) (fun x e => (h.irw hn x e).2)
  exact ⟨q', e1, e2, e3⟩
/-- the other rows stay -/
theorem Te.keep (h : Te L W z g a R k M) {j : Nat} (hi : i < k) (hj : j < k) (ij : j ≠ i) (q : NL L W (T2 (mR M R i)) (fun x => x = mR M R i) False z M M') : nv M' (mR M R j + 1) = nv M (mR M R j + 1) ∧ nv M' (mR M R j + 3) = nv M (mR M R j + 3) ∧ mI M' (mR M R j) = mI M (mR M R j) := by
  have d := h.2.2.2.2 j i hj hi ij
  have f := h.2.2.1.2.2.2.2.2 j hj
  exact ⟨(q.num h.1.2.1 f.2.1 d.t2.1).2.2, (q.num h.1.2.1 f.2.2 d.t2.2).2.2, (q.frp h.1.2.1 f.1).2 d.1⟩
/-- after begin -/
def bgQ (M : mM) (R cn : Nat) : Prop := ∀ i, i < cn → (nv M (mR M R i + 1) = 0 ∨ nv M (mR M R i + 1) = 1) ∧ nv M (mR M R i + 3) = 1 ∧ mI M (mR M R i) 2 = 1
theorem s_bg10 (h0 : Te L W z g a R k M0) (hcn : cn ≤ k) (hk : k ≤ 512) (e0 : mI M0 g 0 = ((cn : Nat) : Int)) : ∀ (t i : Nat) (M : mM), cn ≤ i + t → i ≤ cn → NL L W (Trw M0 R cn) (Irw M0 R cn) False z M0 M → Te L W z g a R k M → mR M R = mR M0 R → mI M g 0 = ((cn : Nat) : Int) → bgQ M R i → h_Fs_begin_10 G (d + 1) a g i M (fun M' => NL L W (Trw M0 R cn) (Irw M0 R cn) False z M0 M' ∧ bgQ M' R cn) := by
  intro t
  induction t with
  | zero =>
    intro i M h1 h2 hN hT eR eg hb
    have ei : i = cn := by omega
    subst ei
    refine k_Fs_begin_10 hN.ok ⟨by omega, by omega⟩ ?_
    rw [eg]
    exact ⟨hT.2.1.1.1, fun _ => ⟨hN, hb⟩, fun u => absurd (Int.le_refl _) u⟩
  | succ t ih =>
    intro i M h1 h2 hN hT eR eg hb
    by_cases ei : i = cn
    · exact ih i M (by omega) h2 hN hT eR eg hb
    have hi : i < cn := by omega
    obtain ⟨⟨hO, hF, hS⟩, ⟨⟨g1, ⟨r2, -⟩, kk, ⟨n2, -⟩⟩, -⟩, ⟨t1, t2, t3, t4, -, t6⟩, -, -⟩ := id hT
    refine k_Fs_begin_10 hN.ok ⟨by omega, by omega⟩ ?_
    rw [eg, t2, t4, r2, n2, Int.toNat_natCast]
    refine ⟨g1, fun u => absurd u (by omega), fun _ => ⟨t1, t3, ⟨by omega, by omega⟩, kk 2 (by decide) (by decide), ⟨by omega, by omega⟩, fun v20 e20 => ⟨(t6 i (by omega)).1.1, ?_⟩⟩⟩
    have v01 : v20 = 0 ∨ v20 = 1 := by rw [e20]; split <;> omega
    refine (f_Fr_put0 (d := d) ⟨by omega, by omega⟩ hO hF (t6 i (by omega)) hS.z9).mono (fun M26 q => ?_)
    obtain ⟨q1, q2, q3, q4⟩ := q
    obtain ⟨p1, p2, p3, p4⟩ := hT.row hi (by omega) q1
    have p1' : NL L W (Trw M0 R cn) (Irw M0 R cn) False z M M26 := by
      unfold Trw Irw at p1 ⊢
      rw [eR] at p1
      exact p1
    rw [show ((i : Int) + 1) = ((i + 1 : Nat) : Int) by omega]
    have g0 := p3 0 (by decide)
    rw [Nat.add_zero] at g0
    refine ⟨q1.ok, ih (i + 1) M26 (by omega) (by omega) (hN.trans p1') p2 (by rw [p4, eR]) (by rw [g0]; exact eg) (fun j hj => ?_)⟩
    rw [p4]
    by_cases c : j = i
    · rw [c]
      exact ⟨by rw [q2]; exact v01, q3, q4⟩
    · obtain ⟨k1, k2, k3⟩ := hT.keep (j := j) (by omega) (by omega) c q1
      rw [k1, k2, k3]
      exact hb j (by omega)
end NBF
end
section
/-! Tables of fractions: what growth leaves as it was; begin as a whole. -/
section NBG
variable {G : mG} {d a b z n m w S B u g R R' Rb kb cn cnt f f' F s i k k' K x : Nat} {M M0 M' M1 M2 M3 : mM} {L L' L1 : List Nat} {W : Nat → Nat} {T I : Nat → Prop} {r : Prop}
/-- a step of growth -/
def Gw (L : List Nat) (W : Nat → Nat) (a : Nat) (M : mM) (L' : List Nat) (M' : mM) : Prop := mOk M' ∧ (NF L W M ∧ NF L' W M') ∧ (∀ x, x ∈ L → x ∈ L') ∧ (∀ x, x ∈ L' → x ∈ L ∨ (mZ M < x ∧ mZ M < mR M' x 0)) ∧ FA (fun _ => False) (fun x => x = a) M M' ∧ (a ∉ L ∧ mK M a = 13)
theorem Gw.rf (h : Gw L W a M L' M') {b : Nat} (hb : b ∈ L) : mR M' b = mR M b ∧ nv M' b = nv M b ∧ sz M' b = sz M b := by
  obtain ⟨-, ⟨h1, h2⟩, h3, h4, h5, h6, -⟩ := h
  have z := h1.lt hb
  have e1 := (h5.2 b z.1).2.2.2.1 (fun e => h6 (by rw [← e]; exact hb))
  have e2 := (h5.2 b z.1).2.2.2.2 (fun e => e)
  have e3 := (h5.2 _ z.2).2.2.2.2 (fun e => e)
  have e4 : sz M' b = sz M b := by unfold sz; rw [e2]
  exact ⟨e1, by unfold nv; rw [e4, e1, e3], e4⟩
theorem Gw.oc (h : Gw L W a M L' M') (hx : Oc L M x) : Oc L' M' x := by
  have q := h
  obtain ⟨-, ⟨h1, h2⟩, h3, h4, h5, h6, -⟩ := h
  have zx := hx.1
  refine ⟨Nat.lt_of_lt_of_le hx.1 h5.1.1, fun u => ?_, fun b hb u => ?_⟩
  · rcases h4 x u with e | e
    · exact hx.2.1 e
    · omega
  · rcases h4 b hb with e | e
    · rw [(q.rf e).1] at u
      exact hx.2.2 b e u
    · omega
theorem Gw.frl (h : Gw L W a M L' M') (hf : FrL L M f) : FrL L' M' f ∧ mI M' f = mI M f := by
  obtain ⟨-, ⟨h1, h2⟩, h3, h4, h5, h6, h7⟩ := h
  have z := hf.1.2.2
  refine ⟨⟨hf.1.fa h5 (fun e => ?_), h3 _ hf.2.1, h3 _ hf.2.2⟩, (h5.2 f z).2.2.2.2 (fun e => e)⟩
  have := hf.1.1
  rw [e, h7] at this
  omega
theorem Gw.sk (h : Gw L W a M L' M') (hS : SK L M z) : SK L' M' z := by
  obtain ⟨⟨k1, k2⟩, k3, k4, ⟨k5, k6, k7⟩, ⟨k8, k9⟩, ⟨l1, l2, l3, l4, l5, l6, l7, l8⟩, ⟨l9, l10, l11, l12⟩⟩ := hS
  have f8 := (h.frl (f := z + 18) ⟨k8, l9, l10⟩).1
  have f9 := (h.frl (f := z + 23) ⟨k9, l11, l12⟩).1
  obtain ⟨-, ⟨h1, h2⟩, h3, h4, h5, h6, h7⟩ := h
  have ne : z ≠ a := fun e => by rw [e, h7] at k1; omega
  have rz := (h5.2 z k2).2.2.2.1 ne
  have le := h5.1.1
  refine ⟨⟨by rw [(h5.2 z k2).1]; exact k1, by omega⟩, by rw [rz]; exact k3, by rw [rz]; exact k4, ⟨by rw [(h5.2 _ k7).1]; exact k5, by rw [(h5.2 _ k7).2.1]; exact k6, by omega⟩, ⟨f8.1, f9.1⟩, ⟨h3 _ l1, h3 _ l2, h3 _ l3, h3 _ l4, h3 _ l5, h3 _ l6, h3 _ l7, h3 _ l8⟩, h3 _ l9, h3 _ l10, h3 _ l11, h3 _ l12⟩
theorem Gw.gk (h : Gw L W a M L' M') (hG : GK9 M g ∧ ∀ i, i ≤ 9 → Oc L M (g + i)) : (GK9 M' g ∧ ∀ i, i ≤ 9 → Oc L' M' (g + i)) ∧ ∀ i, i ≤ 9 → mI M' (g + i) = mI M (g + i) := by
  obtain ⟨h8, h9⟩ := hG
  have oc := fun i (hi : i ≤ 9) => h.oc (h9 i hi)
  obtain ⟨-, ⟨h1, h2⟩, h3, h4, h5, h6, h7⟩ := h
  have c := fun i (hi : i ≤ 9) => h5.2 (g + i) (h9 i hi).1
  have ne : g ≠ a := fun e => by have := h8.1; rw [e, h7] at this; omega
  have c0 := c 0 (by decide)
  rw [Nat.add_zero] at c0
  refine ⟨⟨⟨by rw [c0.1]; exact h8.1, by rw [c0.2.2.2.1 ne]; exact h8.2.1, fun i hi hi' => by rw [(c i hi').1]; exact h8.2.2.1 i hi hi', ?_⟩, oc⟩, fun i hi => (c i hi).2.2.2.2 (fun e => e)⟩
  rw [(c 2 (by decide)).2.1, (c 4 (by decide)).2.1, (c 6 (by decide)).2.1, (c 7 (by decide)).2.1, (c 8 (by decide)).2.1, (c 9 (by decide)).2.1]
  exact h8.2.2.2
/-- another table -/
theorem Gw.te (h : Gw L W a M L' M') (hT : Te L W z g b Rb kb M) (ab : b ≠ a) : Te L' W z g b Rb kb M' ∧ mR M' Rb = mR M Rb := by
  obtain ⟨⟨h1, h2, h3⟩, h4, ⟨t1, t2, t3, t4, ⟨t5, t6⟩, t7⟩, h6, h7⟩ := hT
  have sk := h.sk h3
  have gk := (h.gk h4).1
  have fr := fun i (hi : i < kb) => (h.frl (t7 i hi)).1
  have ob := h.oc t5
  have oR := h.oc t6
  obtain ⟨q0, ⟨q1, q2⟩, q3, q4, q5, q6, q7⟩ := h
  have cb := q5.2 b t5.1
  have cR := q5.2 Rb t6.1
  have nR : Rb ≠ a := fun e => by rw [e, q7] at t3; omega
  have eR := cR.2.2.2.1 nR
  exact ⟨⟨⟨q0, q2, sk⟩, gk, ⟨by rw [cb.1]; exact t1, by rw [cb.2.2.2.1 ab]; exact t2, by rw [cR.1]; exact t3, by rw [cR.2.1]; exact t4, ⟨ob, oR⟩, fun i hi => by rw [eR]; exact fr i hi⟩, fun i hi => by rw [eR]; exact h6 i hi, fun i j hi hj ij => by rw [eR]; exact h7 i j hi hj ij⟩, eR⟩
/-- the table that grew -/
theorem rv_te (hT : Te L W z g a R k M) (q : rvQ L W a M R k cnt M') : ∃ L' R' k', Gw L W a M L' M' ∧ Te L' W z g a R' k' M' ∧ (cnt ≤ k' ∧ k ≤ k') ∧ (∀ i, i < k → mR M' R' i = mR M R i) ∧ (∀ i, k ≤ i → i < k' → mR M' R' i = mZ M + 1 + 5 * (i - k) ∧ mI M' (mZ M + 1 + 5 * (i - k)) 2 = 1) ∧ ((M' = M ∧ L' = L ∧ R' = R ∧ k' = k) ∨ rvG L M R k L' M' R' k') := by
  obtain ⟨⟨h1, h2, h3⟩, h4, ⟨t1, t2, t3, t4, ⟨t5, t6⟩, t7⟩, h6, h7⟩ := id hT
  obtain ⟨L', R', k', q1, q2, q3, q4, q5, q6, q7, -, q9, q10, q11⟩ := q
  have gw : Gw L W a M L' M' := ⟨q1, ⟨h2, q2⟩, q3, q4, q7, t5.2.1, t1⟩
  have zS := h3.2.2.2.2.2.2
  have z26 : z + 26 < mZ M := (h2.lt zS.2.2.2).1
  have lt : ∀ i, i < k → mR M R i + 3 < mZ M := fun i hi => (h2.lt (t7 i hi).2.2).1
  refine ⟨L', R', k', gw, ⟨⟨q1, q2, gw.sk h3⟩, (gw.gk h4).1, q5, fun i hi => ?_, fun i j hi hj ij => ?_⟩, q6, q9, q10, q11⟩
  · by_cases c : i < k
    · rw [q9 i c]; exact h6 i c
    · rw [(q10 i (by omega) hi).1]
      unfold Rap Tpk T4 Tor T2
      omega
  · by_cases c1 : i < k
    · by_cases c2 : j < k
      · rw [q9 i c1, q9 j c2]; exact h7 i j c1 c2 ij
      · rw [q9 i c1, (q10 j (by omega) hj).1]
        have := lt i c1
        unfold Frd
        omega
    · by_cases c2 : j < k
      · rw [q9 j c2, (q10 i (by omega) hi).1]
        have := lt j c2
        unfold Frd
        omega
      · rw [(q10 i (by omega) hi).1, (q10 j (by omega) hj).1]
        unfold Frd
        omega
/-- what begin leaves behind -/
def begQ (L : List Nat) (W : Nat → Nat) (z g a R k cn : Nat) (M M' : mM) : Prop := ∃ L' R' k' M1, Gw L W a M L' M1 ∧ Te L' W z g a R' k' M1 ∧ (cn ≤ k' ∧ k ≤ k') ∧ ((M1 = M ∧ L' = L ∧ R' = R ∧ k' = k) ∨ rvG L M R k L' M1 R' k') ∧ (∀ i, i < k → mR M1 R' i = mR M R i) ∧ (∀ i, k ≤ i → i < k' → mR M1 R' i = mZ M + 1 + 5 * (i - k) ∧ mI M1 (mZ M + 1 + 5 * (i - k)) 2 = 1) ∧ NL L' W (Trw M1 R' cn) (Irw M1 R' cn) False z M1 M' ∧ bgQ M' R' cn
theorem f_begin (hT : Te L W z g a R k M) (hk : k ≤ 512) (hcn : cn ≤ 512) (e0 : mI M g 0 = ((cn : Nat) : Int)) (hWn : ∀ x, mZ M < x → 2 ≤ W x ∧ W x ≤ 20000) : Cv G y_Fs_begin (d + 4) [vr a, vr g] M (begQ L W z g a R k cn M) := by
  refine k_Fs_begin hT.1.1 ?_
  rw [e0]
  refine ⟨hT.2.1.1.1, hT.2.2.1.1, (f_Fs_reserve (d := d) hT.1.1 hT.1.2.1 hT.2.2.1 hk hcn hWn).mono (fun M3 q => ?_)⟩
  obtain ⟨L', R', k', gw, te, c, p1, p2, p3⟩ := rv_te hT q
  have g0 := (gw.gk hT.2.1).2 0 (by decide)
  rw [Nat.add_zero] at g0
  have k5 : k' ≤ 512 := by
    rcases p3 with ⟨-, -, -, e⟩ | ⟨-, e, -⟩ <;> omega
  have hm : ∀ {Q Q' : mM → Prop}, h_Fs_begin_10 G (d + 3) a g 0 M3 Q → (∀ M', Q M' → Q' M') → h_Fs_begin_10 G (d + 3) a g 0 M3 Q' := fun h hq => by
    unfold h_Fs_begin_10 at h ⊢
    exact mWm.mono h (fun r M' k => ⟨k.1, hq M' k.2⟩)
  refine ⟨gw.1, hm (s_bg10 (d := d + 2) te c.1 k5 (by rw [g0]; exact e0) cn 0 M3 (by omega) (by omega) (NL.refl gw.1 gw.2.1.2 (te.trw c.1) (te.irw c.1) te.1.2.2.z9) te rfl (by rw [g0]; exact e0) (fun i hi => absurd hi (by omega))) (fun M' q' => ⟨L', R', k', M3, gw, te, c, p3, p1, p2, q'.1, q'.2⟩)⟩
end NBG
end
