/-! Tables of fractions: reserve, the whole. -/
section NBE
variable {G : mG} {d a z n m w S B u g R R' cn cnt f F s i k K : Nat} {M M0 M' M1 M2 M3 : mM} {L L' L1 : List Nat} {W : Nat → Nat}
theorem s_rv_cp (h : RvI L W M R k K i L1 M1) (hik : i < k) (hiK : i < K) {v : Nat} (hv : v = mR M R i) (e : M2 = mUR M1 (mZ M) i v) : RvI L W M R k K (i + 1) L1 M2 := by
  obtain ⟨⟨o1, F1⟩, f1, ⟨kz, nz⟩, ⟨z1, s1⟩, rj, fj, ⟨oc, l1, l2⟩, ⟨g1, g2, g3⟩⟩ := h
  have F2 : FA (fun _ => False) (fun x => x = mZ M) M1 M2 := FA.ur rfl e
  have ei : i + 1 - k = i - k := by omega
  have nf2 := nf_ur F1 oc.2.1 e
  have cc : ∀ a, a ∈ L1 → cp M2 a = cp M1 a := fun a ha => ((F1.nt ha).fa F2 (fun e => e) (fun e => e) (fun e' => oc.2.1 (by rw [← e']; exact ha))).cp
  have rr : ∀ a, a ∈ L1 → mR M2 a 0 = mR M1 a 0 := fun a ha => ((F1.nt ha).fa F2 (fun e => e) (fun e => e) (fun e' => oc.2.1 (by rw [← e']; exact ha))).1.2.1
  refine ⟨⟨by rw [e]; exact mOk_UR o1, nf2⟩, f1.trans2 F2 (fun _ _ e => e) (fun x hx e => by have e' : x = mZ M := e; omega), ⟨by rw [e]; exact kz, by rw [e]; exact nz⟩, ⟨by rw [e, ei]; exact z1, by rw [e, ei]; exact s1⟩, fun j hj => ?_, fun j hj1 hj2 => absurd hj2 (by omega), ⟨⟨by rw [e]; exact oc.1, oc.2.1, fun a ha u => oc.2.2 a ha (by rw [← rr a ha]; exact u)⟩, l1, fun x hx => (l2 x hx).imp (fun q => q) (fun q => ⟨q.1, by rw [rr x hx]; exact q.2⟩)⟩, by rw [ei]; exact g1, by rw [ei, psum_congr L1 cc]; exact g2, by rw [ei, psum_congr (g := fun p => cp M1 p / 4) L1 (fun q hq => by show cp M2 q / 4 = cp M1 q / 4; rw [cc q hq])]; exact g3⟩
  rw [e, mR_UR]
  by_cases c : j = i
  · rw [if_pos ⟨rfl, c⟩, c, if_pos hik, hv]
  · rw [if_neg (fun u => c u.2)]
    exact rj j (by omega)
/-- what stood apart stands apart -/
theorem rv_oc {x : Nat} (hF : NF L W M) (F1 : NF L1 W M1) (f1 : FA (fun _ => False) (fun _ => False) M M1) (l2 : ∀ x, x ∈ L1 → x ∈ L ∨ (mZ M < x ∧ mZ M < mR M1 x 0)) (hx : Oc L M x) : Oc L1 M1 x := by
  have zx := hx.1
  refine ⟨Nat.lt_of_lt_of_le hx.1 f1.1.1, fun u => ?_, fun b hb u => ?_⟩
  · rcases l2 x u with e | e
    · exact hx.2.1 e
    · omega
  · rcases l2 b hb with e | e
    · rw [(f1.2 b (hF.lt e).1).2.2.2.1 (fun e => e)] at u
      exact hx.2.2 b e u
    · omega
theorem oc_ur {x y j v : Nat} (h : Oc L M x) (hy : y ∉ L) (e : M' = mUR M y j v) : Oc L M' x := by
  refine ⟨by rw [e]; exact h.1, h.2.1, fun b hb u => h.2.2 b hb ?_⟩
  rw [e, mR_UR, if_neg (fun q => hy (by rw [← q.1]; exact hb))] at u
  exact u
/-- the loop -/
theorem s_rv32 (hF : NF L W M) (hT : RwT L M a R k) (hK : k < K ∧ K ≤ 512 ∧ (2 * k ≤ K ∨ K = 512)) (hc : cnt ≤ K) (hWn : ∀ x, mZ M < x → 2 ≤ W x ∧ W x ≤ 20000) : ∀ (t i : Nat) (L1 : List Nat) (M1 : mM), K ≤ i + t → i ≤ K → RvI L W M R k K i L1 M1 → h_Fs_reserve_32 G (d + 2) a (mZ M) i M1 (rvQ L W a M R k cnt) := by
  obtain ⟨t1, t2, t3, t4, ⟨t5, t6⟩, t7⟩ := id hT
  have za := t5.1
  have zR := t6.1
  intro t
  induction t with
  | zero =>
    intro i L1 M1 h1 h2 hI
    have ei : i = K := by omega
    subst ei
    obtain ⟨⟨o1, F1⟩, f1, ⟨kz, nz⟩, ⟨z1, s1⟩, rj, fj, ⟨oc, l1, l2⟩, ⟨g1, g2, g3⟩⟩ := hI
    refine k_Fs_reserve_32 o1 ⟨by omega, by omega⟩ ?_
    rw [kz, nz]
    refine ⟨rfl, ⟨by omega, by omega⟩, fun _ => ⟨by rw [(f1.2 a za).1]; exact t1, fun M20 e20 => ?_⟩, fun u => absurd (Int.le_refl _) u⟩
    have oa := rv_oc hF F1 f1 l2 t5
    have naL : a ∉ L1 := oa.2.1
    have F20 : FA (fun _ => False) (fun x => x = a) M1 M20 := FA.ur rfl e20
    have nf := nf_ur F1 naL e20
    have ff : FA (fun _ => False) (fun x => x = a) M M20 := (f1.mono (fun _ _ e => e) (fun _ _ e => e.elim)).trans F20
    have cc : ∀ b, b ∈ L1 → cp M20 b = cp M1 b := fun b hb => ((F1.nt hb).fa F20 (fun e => e) (fun e => e) (fun e => naL (by rw [← e]; exact hb))).cp
    have rz : mR M20 (mZ M) = mR M1 (mZ M) := by
      funext j
      rw [e20, mR_UR, if_neg (fun u => by omega)]
    have fr : ∀ {f : Nat}, FrP M1 f → FrP M20 f := fun hf => hf.fa F20 (fun e => by
      have e' := hf.1
      have e'' : mK M1 a = 13 := by rw [(f1.2 a za).1]; exact t1
      rw [e, e''] at e'
      omega)
    refine ⟨L1, mZ M, i, by rw [e20]; exact mOk_UR o1, nf, l1, fun x hx => (l2 x hx).imp (fun q => q) (fun q => ⟨q.1, by rw [((F1.nt hx).fa F20 (fun e => e) (fun e => e) (fun e => naL (by rw [← e]; exact hx))).1.2.1]; exact q.2⟩), ⟨by rw [(ff.2 a za).1]; exact t1, by rw [e20, mR_UR, if_pos ⟨rfl, rfl⟩], by rw [e20]; exact kz, by rw [e20]; exact nz, ⟨oc_ur oa naL e20, oc_ur oc naL e20⟩, fun j hj => ?_⟩, ⟨hc, by omega⟩, ff, fun j hj => by rw [e20, mR_UR, if_neg (fun u => hj u.2), (f1.2 a za).2.2.2.1 (fun e => e)], fun j hj => by rw [rz, rj j (by omega), if_pos hj], fun j hj1 hj2 => ⟨by rw [rz, rj j hj2, if_neg (by omega)], by rw [e20]; exact (fj j hj1 hj2).2⟩, Or.inr ⟨rfl, hK, g1, ⟨by rw [e20]; exact z1, by rw [e20]; exact s1⟩, by rw [psum_congr L1 cc]; exact g2, by rw [psum_congr (g := fun p => cp M1 p / 4) L1 (fun q hq => by show cp M20 q / 4 = cp M1 q / 4; rw [cc q hq])]; exact g3⟩⟩
    rw [rz, rj j hj]
    by_cases c : j < k
    · rw [if_pos c]
      obtain ⟨p1, p2, p3⟩ := t7 j c
      exact ⟨fr (p1.fa f1 (fun e => e)), l1 _ p2, l1 _ p3⟩
    · rw [if_neg c]
      obtain ⟨⟨p1, p2, p3⟩, -⟩ := fj j (by omega) hj
      exact ⟨fr p1, p2, p3⟩
  | succ t ih =>
    intro i L1 M1 h1 h2 hI
    by_cases ei : i = K
    · exact ih i L1 M1 (by omega) h2 hI
    have hiK : i < K := by omega
    obtain ⟨⟨o1, F1⟩, f1, ⟨kz, nz⟩, ⟨z1, s1⟩, rj, fj, -, -⟩ := id hI
    have ra : mR M1 a 0 = R := by rw [(f1.2 a za).2.2.2.1 (fun e => e)]; exact t2
    refine k_Fs_reserve_32 o1 ⟨by omega, by omega⟩ ?_
    rw [kz, nz, ra, (f1.2 R zR).1, (f1.2 R zR).2.1, t3, t4, Int.toNat_natCast, (f1.2 a za).1, show ((i : Int) + 1) = ((i + 1 : Nat) : Int) by omega]
    refine ⟨rfl, ⟨by omega, by omega⟩, fun u => absurd u (by omega), fun _ => ⟨t1, rfl, ⟨by omega, by omega⟩, fun u M33 e33 => (s_rv_new (d := d) hI (by omega) hiK hWn e33).mono (fun M35 q => ?_), fun u => ⟨⟨by omega, by omega⟩, ⟨by omega, by omega⟩, ?_, fun M46 e46 => ?_⟩⟩⟩
    · obtain ⟨q1, q2, q3, q4, q5⟩ := q
      exact ⟨q1, q2, q3, q4, fun M41 e41 => ih (i + 1) _ M41 (by omega) (by omega) (q5 M41 e41)⟩
    · rw [(f1.2 R zR).2.2.2.1 (fun e => e), (f1.2 _ (t7 i (by omega)).1.2.2).1]
      exact (t7 i (by omega)).1.1
    · refine ih (i + 1) L1 M46 (by omega) (by omega) (s_rv_cp hI (by omega) hiK ?_ e46)
      rw [(f1.2 R zR).2.2.2.1 (fun e => e)]
/-- room for cnt fractions -/
theorem f_Fs_reserve (hO : mOk M) (hF : NF L W M) (hT : RwT L M a R k) (hk : k ≤ 512) (hc : cnt ≤ 512) (hWn : ∀ x, mZ M < x → 2 ≤ W x ∧ W x ≤ 20000) : Cv G y_Fs_reserve (d + 3) [vr a, vi cnt] M (rvQ L W a M R k cnt) := by
  obtain ⟨t1, t2, t3, t4, ⟨t5, t6⟩, t7⟩ := id hT
  refine k_Fs_reserve hO ⟨by omega, by omega⟩ ?_
  rw [t2, t4]
  refine ⟨t1, t3, ⟨by omega, by omega⟩, fun u => ?_, fun u => ⟨⟨by omega, by omega⟩, ?_⟩⟩
  · exact ⟨L, R, k, hO, hF, fun _ h => h, fun _ h => Or.inl h, hT, ⟨by omega, Nat.le_refl _⟩, FA.refl, fun _ _ => rfl, fun _ _ => rfl, fun i h1 h2 => absurd h2 (by omega), Or.inl ⟨rfl, rfl, rfl, rfl⟩⟩
  · obtain ⟨K, eK, K1, K2⟩ : ∃ K : Nat, (if (if ((cnt : Nat) : Int) < 2 * ((k : Nat) : Int) then 2 * ((k : Nat) : Int) else ((cnt : Nat) : Int)) < 512 then (if ((cnt : Nat) : Int) < 2 * ((k : Nat) : Int) then 2 * ((k : Nat) : Int) else ((cnt : Nat) : Int)) else 512) = ((K : Nat) : Int) ∧ (k < K ∧ K ≤ 512 ∧ (2 * k ≤ K ∨ K = 512)) ∧ cnt ≤ K := by
      by_cases c1 : ((cnt : Nat) : Int) < 2 * ((k : Nat) : Int)
      · rw [if_pos c1]
        by_cases c2 : 2 * ((k : Nat) : Int) < 512
        · rw [if_pos c2]; exact ⟨2 * k, by omega, by omega, by omega⟩
        · rw [if_neg c2]; exact ⟨512, rfl, by omega, by omega⟩
      · rw [if_neg c1]
        by_cases c2 : ((cnt : Nat) : Int) < 512
        · rw [if_pos c2]; exact ⟨cnt, rfl, by omega, Nat.le_refl _⟩
        · rw [if_neg c2]; exact ⟨512, rfl, by omega, by omega⟩
    rw [eK, Int.toNat_natCast]
    refine ⟨⟨by omega, by omega⟩, fun M9 e9 => ?_⟩
    have f9 : FA (fun _ => False) (fun _ => False) M M9 := FA.new e9
    have nt9 : ∀ b, b ∈ L → Nt M9 b (mR M b 0) (cp M b) (sz M b) := fun b hb => (hF.nt hb).fa f9 (fun e => e) (fun e => e) (fun e => e)
    have nf9 : NF L W M9 := ⟨hF.1, fun b hb => ⟨(nt9 b hb).nn, by rw [(nt9 b hb).cp]; exact (hF.2.1 b hb).2.1, (hF.2.1 b hb).2.2⟩, fun b c hb hc u => hF.2.2 b c hb hc (by rw [← (nt9 b hb).1.2.1, ← (nt9 c hc).1.2.1]; exact u)⟩
    have cc : ∀ b, b ∈ L → cp M9 b = cp M b := fun b hb => (nt9 b hb).cp
    have nz : mZ M ∉ L := fun u => by have := (hF.lt u).1; omega
    refine s_rv32 (d := d) hF hT K1 K2 hWn K 0 L M9 (by omega) (by omega) ⟨⟨by rw [e9]; exact mOk_New hO, nf9⟩, f9, ⟨by rw [e9, mK_New, if_pos rfl], by rw [e9, mN_New, if_pos rfl]⟩, ⟨by rw [e9, mZ_New]; omega, by rw [e9, mS_New]; omega⟩, fun j hj => absurd hj (by omega), fun j _ hj => absurd hj (by omega), ⟨⟨by rw [e9, mZ_New]; omega, nz, fun b hb u => ?_⟩, fun _ h => h, fun _ h => Or.inl h⟩, by omega, ?_, ?_⟩
    · rw [(nt9 b hb).1.2.1] at u
      have := (hF.lt hb).2
      omega
    · rw [psum_congr L cc]; omega
    · rw [psum_congr (g := fun p => cp M p / 4) L (fun q hq => by show cp M9 q / 4 = cp M q / 4; rw [cc q hq])]; omega
end NBE
