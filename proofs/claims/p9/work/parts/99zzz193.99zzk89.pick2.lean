section
/-! The Scales: picking, the whole. -/
section NBB
variable {G : mG} {d b c z n m w S x y B u g a R cn bc f s i fr to : Nat} {M M0 M' M1 M2 M3 : mM} {L : List Nat} {W : Nat → Nat} {T T' I I' : Nat → Prop} {r : Prop} {sh t : Int}
theorem cmdG.same (h : cmdG M g cn bc c) (e : ∀ i, i ≤ 9 → mI M' (g + i) = mI M (g + i)) : cmdG M' g cn bc c := h.cg ⟨by rw [e 7 (by decide)], by rw [e 7 (by decide)]⟩ (by rw [e 6 (by decide)]) (by rw [e 5 (by decide)]) (fun i _ => ⟨by rw [e 8 (by decide)], by rw [e 9 (by decide)]⟩) (Nat.le_refl _) (Nat.le_refl _)
/-- what the best of the commands fr to fr + i is worth -/
noncomputable def pkv (l4 : Int) (M : mM) (R g fr i : Nat) : Rat := bst9 (l4 ≠ 0) (fun j => wr9 (rwv M R) (cmm M g (fr + j))) i
/-- the two worths change places -/
theorem nl_swap (hO : mOk M) (hF : NF L W M) (hS : SK L M z) (e1 : M1 = mUR M z 9 (mR M z 10)) (e2 : M2 = mUR M1 z 10 (mR M z 9)) : NL L W (Tpk z) (Ipk z) True z M M2 ∧ SK L M2 z ∧ (∀ a, a ∈ L → nv M2 a = nv M a) ∧ mI M2 = mI M ∧ (mR M2 z 9 = mR M z 10 ∧ mR M2 z 10 = mR M z 9) := by
  have rr : ∀ a j, mR M2 a j = if a = z ∧ j = 10 then mR M z 9 else if a = z ∧ j = 9 then mR M z 10 else mR M a j := fun a j => by rw [e2, mR_UR, e1, mR_UR]
  have ro : ∀ a, a ≠ z → mR M2 a = mR M a := fun a ha => by
    funext j
    rw [rr, if_neg (fun u => ha u.1), if_neg (fun u => ha u.1)]
  have r9 : mR M2 z 9 = mR M z 10 := by rw [rr, if_neg (fun u => absurd u.2 (by decide)), if_pos ⟨rfl, rfl⟩]
  have r10 : mR M2 z 10 = mR M z 9 := by rw [rr, if_pos ⟨rfl, rfl⟩]
  have ri : ∀ j, j ≠ 9 → j ≠ 10 → mR M2 z j = mR M z j := fun j h9 h10 => by rw [rr, if_neg (fun u => h10 u.2), if_neg (fun u => h9 u.2)]
  have kk : mK M2 = mK M := by rw [e2, e1]; rfl
  have nn : mN M2 = mN M := by rw [e2, e1]; rfl
  have ii : mI M2 = mI M := by rw [e2, e1]; rfl
  have ll : mL M2 = mL M := by rw [e2, e1]; rfl
  have zz : mZ M2 = mZ M := by rw [e2, e1]; rfl
  have ss : mS M2 = mS M := by rw [e2, e1]; rfl
  have o2 : mOk M2 := by rw [e2, e1]; exact mOk_UR (mOk_UR hO)
  have nz : ∀ a, a ∈ L → a ≠ z := fun a ha => (hF.nz hS.1.1 ha).1
  have nt' : ∀ a, a ∈ L → Nt M2 a (mR M a 0) (cp M a) (sz M a) := fun a ha => by
    have t := hF.nt ha
    unfold Nt Nl lim at t ⊢
    rw [kk, nn, ro a (nz a ha), ii, zz]
    exact t
  have cc : ∀ a, a ∈ L → cp M2 a = cp M a := fun a ha => (nt' a ha).cp
  refine ⟨⟨⟨o2, hF.1, fun a ha => ⟨(nt' a ha).nn, by rw [cc a ha]; exact (hF.2.1 a ha).2.1, (hF.2.1 a ha).2.2⟩, fun a b ha hb u => hF.2.2 a b ha hb (by rw [← ro a (nz a ha), ← ro b (nz b hb)]; exact u)⟩, ⟨hS.tpk, hS.ipk, hS.z9⟩, ⟨⟨by rw [zz]; exact Nat.le_refl _, by rw [ss]; exact Nat.le_refl _⟩, fun x _ => ⟨by rw [kk], by rw [nn], fun _ => by rw [ll], fun u => ro x (fun e => u (Or.inr ⟨e, trivial⟩)), fun _ => by rw [ii]⟩⟩, fun t ht => Or.inl (by rw [ro t (nz t (hS.tpk t ht))]), ?_⟩, ?_, fun a ha => (nt' a ha).nv.trans (by rw [ii]; rfl), ii, r9, r10⟩
  · unfold RmN
    rw [psum_congr L (fun q hq => (cc q hq)), psum_congr (f := fun p => cp M2 p / 4) (g := fun p => cp M p / 4) L (fun q hq => by show cp M2 q / 4 = cp M q / 4; rw [cc q hq]), zz, ss]
    exact ⟨Nat.le_refl _, Nat.le_refl _⟩
  · obtain ⟨k1, k2, k3, k4, ⟨k5, k6⟩, k7, k8⟩ := id hS
    have n18 : z + 18 ≠ z := by omega
    have n23 : z + 23 ≠ z := by omega
    unfold SK FrP
    rw [kk, nn, zz, ri 0 (by decide) (by decide), ri 1 (by decide) (by decide), ri 2 (by decide) (by decide), ri 3 (by decide) (by decide), ri 4 (by decide) (by decide), ri 5 (by decide) (by decide), ri 6 (by decide) (by decide), ri 7 (by decide) (by decide), ri 8 (by decide) (by decide), r9, r10, ro _ n18, ro _ n23]
    exact ⟨k1, k2, k3.elim (fun u => Or.inr ⟨u.2, u.1⟩) (fun u => Or.inl ⟨u.2, u.1⟩), k4, ⟨k5, k6⟩, k7, k8⟩
theorem s_pk20 {l4 : Int} (h4 : i32 l4) (hE0 : Pe L W z g a R cn M0) (hrs0 : Rsm M0 R cn S) (hW : ∀ x, Tpk z x → B ≤ W x) (b1 : 16 * S + 10 ≤ B) (hB : B ≤ 16000) (hto : to ≤ 4096) (hcn : cn ≤ 512) (hbc : bc ≤ 4096) (hcm : ∀ c, fr ≤ c → c < to → cmdG M0 g cn bc c) : ∀ (t p c : Nat) (M : mM), to ≤ c + t → fr ≤ p → p < to → fr + 1 ≤ c → c ≤ to → NL L W (Tpk z) (Ipk z) True z M0 M → SK L M z → Bst M0 R cn S M (mR M z 9) → BsV M0 R cn M (mR M z 9) (pkv l4 M0 R g fr (c - 1 - fr)) → h_Sc_pick_20 G (d + 5) z g to l4 a p c M (fun x M' => pkQ L W z R cn S fr to M0 x M' ∧ BsV M0 R cn M' (mR M' z 9) (pkv l4 M0 R g fr (to - 1 - fr))) := by
  intro t
  induction t with
  | zero =>
    intro p c M h1 h2 h3 h5 h6 hN hS hb hv9
    have ec : c = to := by omega
    rw [ec] at hv9
    exact k_Sc_pick_20 hN.ok ⟨by omega, by omega⟩ h4 ⟨by omega, by omega⟩ ⟨by omega, by omega⟩ ⟨fun _ => ⟨⟨hN, hS, hb, by omega, by omega⟩, hv9⟩, fun u => absurd u (by omega)⟩
  | succ t ih =>
    intro p c M h1 h2 h3 h5 h6 hN hS hb hv9
    obtain ⟨hE, e9, eR, vals⟩ := hE0.nl hN hS
    refine k_Sc_pick_20 hN.ok ⟨by omega, by omega⟩ h4 ⟨by omega, by omega⟩ ⟨by omega, by omega⟩ ⟨fun u => ⟨⟨hN, hS, hb, by omega, by omega⟩, by
      have ec : c = to := by omega
      rw [ec] at hv9
      exact hv9⟩, fun u => ?_⟩
    have hrs : Rsm M R cn S := fun i hi => by
      rw [eR, (vals i hi).1, (vals i hi).2]
      exact hrs0 i hi
    have hle : Rle M0 R cn → Rle M R cn := fun q i hi => by
      rw [eR, (vals i hi).1, (vals i hi).2]
      exact q i hi
    rw [show ((c : Int) + 1) = ((c + 1 : Nat) : Int) by omega]
    have ew : wr9 (rwv M R) (cmm M g c) = wr9 (rwv M0 R) (cmm M0 g c) := by
      rw [cmm_same e9]
      exact wr_cg (fun b hb => by
        have lt := cmm_lt (hcm c (by omega) (by omega)) b hb
        exact rwv_cg eR (vals _ lt).1 (vals _ lt).2)
    refine s_pkStep (d := d) hE hrs hW b1 hB hb (by omega) hcn hbc ((hcm c (by omega) (by omega)).same e9) hle hv9 (fun x M12 n1 sk1 rz bb bt xi bv bw ox => ?_)
    rw [ew] at bw ox
    have e0 : pkv l4 M0 R g fr (c + 1 - 1 - fr) = @ite Rat ((l4 ≠ 0 ∧ pkv l4 M0 R g fr (c - 1 - fr) < wr9 (rwv M0 R) (cmm M0 g c)) ∨ (¬ l4 ≠ 0 ∧ wr9 (rwv M0 R) (cmm M0 g c) < pkv l4 M0 R g fr (c - 1 - fr))) (Classical.propDecidable _) (wr9 (rwv M0 R) (cmm M0 g c)) (pkv l4 M0 R g fr (c - 1 - fr)) := by
      have e1 : c + 1 - 1 - fr = c - 1 - fr + 1 := by omega
      have e2 : fr + (c - 1 - fr + 1) = c := by omega
      rw [e1]
      show @ite Rat ((l4 ≠ 0 ∧ pkv l4 M0 R g fr (c - 1 - fr) < wr9 (rwv M0 R) (cmm M0 g (fr + (c - 1 - fr + 1)))) ∨ (¬ l4 ≠ 0 ∧ wr9 (rwv M0 R) (cmm M0 g (fr + (c - 1 - fr + 1))) < pkv l4 M0 R g fr (c - 1 - fr))) (Classical.propDecidable _) (wr9 (rwv M0 R) (cmm M0 g (fr + (c - 1 - fr + 1)))) (pkv l4 M0 R g fr (c - 1 - fr)) = _
      rw [e2]
    have kv : ((l4 = 0 ∧ 0 ≤ x) ∨ (l4 ≠ 0 ∧ x ≤ 0)) → BsV M0 R cn M12 (mR M z 9) (pkv l4 M0 R g fr (c + 1 - 1 - fr)) := fun hx l => by
      rw [e0, if_neg, bv l]
      intro y
      have o := ox l
      rcases y with ⟨y1, y2⟩ | ⟨y1, y2⟩
      · rcases o with ⟨o1, o2⟩ | ⟨o1, o2⟩ | ⟨o1, o2⟩
        · rw [o2] at y2
          exact Rat.lt_irrefl y2
        · omega
        · exact rat3.1 y2 o2
      · rcases o with ⟨o1, o2⟩ | ⟨o1, o2⟩ | ⟨o1, o2⟩
        · rw [o2] at y2
          exact Rat.lt_irrefl y2
        · exact rat3.1 y2 o2
        · omega
    have tv : ((l4 = 0 ∧ ¬ 0 ≤ x) ∨ (l4 ≠ 0 ∧ ¬ x ≤ 0)) → BsV M0 R cn M12 (mR M z 10) (pkv l4 M0 R g fr (c + 1 - 1 - fr)) := fun hx l => by
      rw [e0, if_pos, bw l]
      have o := ox l
      rcases hx with ⟨y1, y2⟩ | ⟨y1, y2⟩
      · refine Or.inr ⟨fun w => w y1, ?_⟩
        rcases o with ⟨o1, o2⟩ | ⟨o1, o2⟩ | ⟨o1, o2⟩
        · omega
        · omega
        · exact o2
      · refine Or.inl ⟨y1, ?_⟩
        rcases o with ⟨o1, o2⟩ | ⟨o1, o2⟩ | ⟨o1, o2⟩
        · omega
        · exact o2
        · omega
    have N1 := hN.trans n1
    have keep : ((l4 = 0 ∧ 0 ≤ x) ∨ (l4 ≠ 0 ∧ x ≤ 0)) → h_Sc_pick_20 G (d + 5) z g to l4 a p ((c + 1 : Nat) : Int) M12 (fun x M' => pkQ L W z R cn S fr to M0 x M' ∧ BsV M0 R cn M' (mR M' z 9) (pkv l4 M0 R g fr (to - 1 - fr))) := fun hx => ih p (c + 1) M12 (by omega) h2 h3 (by omega) (by omega) N1 sk1 (by rw [rz]; exact bb) (by rw [rz]; exact kv hx)
    have take : ((l4 = 0 ∧ ¬ 0 ≤ x) ∨ (l4 ≠ 0 ∧ ¬ x ≤ 0)) → ∀ M29, M29 = mUR M12 z 9 (mR M12 z 10) → ∀ M31, M31 = mUR M29 z 10 (mR M12 z 9) → h_Sc_pick_20 G (d + 5) z g to l4 a c ((c + 1 : Nat) : Int) M31 (fun x M' => pkQ L W z R cn S fr to M0 x M' ∧ BsV M0 R cn M' (mR M' z 9) (pkv l4 M0 R g fr (to - 1 - fr))) := fun hx M29 e29 M31 e31 => by
      obtain ⟨n2, sk2, vv, ii, r9, r10⟩ := nl_swap N1.ok N1.nf sk1 e29 e31
      obtain ⟨i9, i10, -⟩ := sk1.bt
      have f10 := sk1.frl i10
      refine ih c (c + 1) M31 (by omega) (by omega) (by omega) (by omega) (by omega) (N1.trans n2) sk2 ?_ ?_
      rotate_left
      · rw [r9]
        exact (show BsV M0 R cn M12 (mR M12 z 10) (pkv l4 M0 R g fr (c + 1 - 1 - fr)) by rw [rz]; exact tv hx).cg (vv _ f10.2.1) (vv _ f10.2.2) (by rw [ii])
      rw [r9]
      exact (show Bst M0 R cn S M12 (mR M12 z 10) by rw [rz]; exact bt).cg (vv _ f10.2.1) (vv _ f10.2.2) (by rw [ii])
    exact ⟨fun y => ⟨fun y' => keep (Or.inl ⟨y, y'⟩), fun y' => ⟨sk1.1.1, take (Or.inl ⟨y, y'⟩)⟩⟩, fun y => ⟨fun y' => keep (Or.inr ⟨y, y'⟩), fun y' => ⟨sk1.1.1, take (Or.inr ⟨y, y'⟩)⟩⟩⟩
/-- the best command is picked -/
theorem f_pickX {l4 : Int} (h4 : i32 l4) (hE : Pe L W z g a R cn M) (hrs : Rsm M R cn S) (hW : ∀ x, Tpk z x → B ≤ W x) (b1 : 16 * S + 10 ≤ B) (hB : B ≤ 16000) (hft : fr < to) (hto : to ≤ 4096) (hcn : cn ≤ 512) (hbc : bc ≤ 4096) (hcm : ∀ c, fr ≤ c → c < to → cmdG M g cn bc c) : Ci G y_Sc_pick (d + 6) [vr z, vr g, vi fr, vi to, vi l4, vr a] M (fun x M' => pkQ L W z R cn S fr to M x M' ∧ BsV M R cn M' (mR M' z 9) (pkv l4 M R g fr (to - 1 - fr))) := by
  obtain ⟨i9, i10, ne⟩ := hE.1.2.2.bt
  obtain ⟨mu, hm, emu, k⟩ := f_weighX (G := G) (d := d) (B := B) (S := S) (hE.we i9) hrs (fun x hx => hW x (tw_pk i9 hx)) (by omega) hB (show fr < 4096 by omega) hcn hbc (hcm fr (Nat.le_refl _) hft)
  refine k_Sc_pick hE.1.1 ⟨by omega, by omega⟩ ⟨by omega, by omega⟩ h4 ⟨hE.1.2.2.1.1, k.mono (fun M2 qv => ?_)⟩
  obtain ⟨q, qv⟩ := qv
  have bv : BsV M R cn M2 (mR M z 9) (wr9 (rwv M R) (cmm M g fr)) := by
    have := wv_bs qv (show (0 : Int) < ((mu : Nat) : Int) by omega) q.2.2.2.1 (fun l => (q.2.2.2.2 l).2)
    unfold wr9
    rw [emu]
    exact this
  have rz : mR M2 z = mR M z := (q.1.2.2.1.2 z hE.1.2.2.1.2).2.2.2.1 (fun u => u.elim (fun u => (hE.1.2.1.nz hE.1.2.2.1.1 (hE.1.2.2.tpk z (tw_pk i9 u))).1 rfl) (fun u => u.2))
  obtain ⟨n1, sk, bt⟩ := wg_pk hE i9 hm q
  rw [show ((fr : Int) + 1) = ((fr + 1 : Nat) : Int) by omega]
  exact ⟨n1.ok, s_pk20 (d := d) h4 hE hrs hW b1 hB hto hcn hbc hcm to fr (fr + 1) M2 (by omega) (Nat.le_refl _) hft (by omega) (by omega) n1 sk (by rw [rz]; exact bt) (by
    rw [rz, show fr + 1 - 1 - fr = 0 by omega]
    exact bv)⟩
theorem f_pick {l4 : Int} (h4 : i32 l4) (hE : Pe L W z g a R cn M) (hrs : Rsm M R cn S) (hW : ∀ x, Tpk z x → B ≤ W x) (b1 : 16 * S + 10 ≤ B) (hB : B ≤ 16000) (hft : fr < to) (hto : to ≤ 4096) (hcn : cn ≤ 512) (hbc : bc ≤ 4096) (hcm : ∀ c, fr ≤ c → c < to → cmdG M g cn bc c) : Ci G y_Sc_pick (d + 6) [vr z, vr g, vi fr, vi to, vi l4, vr a] M (pkQ L W z R cn S fr to M) := (f_pickX h4 hE hrs hW b1 hB hft hto hcn hbc hcm).mono (fun x M' k => k.1)
/-- the kept worth against a fraction -/
theorem f_orderOfPicked (hO : mOk M) (hF : NF L W M) (hS : SK L M z) (hf : FrL L M f) (o1 : Osz M (mR M z 9) s) (o2 : Osz M f s) (nf : ¬ Tor z (f + 1) ∧ ¬ Tor z (f + 3)) (w9 : 2 * s + 1 ≤ W (z + 9)) (w11 : 2 * s + 1 ≤ W (z + 11)) : Ci G y_Sc_orderOfPicked (d + 6) [vr z, vr f] M (fun x M' => NL L W (Tor z) (fun _ => False) False z M M' ∧ (x = -1 ∨ x = 0 ∨ x = 1)) := by
  obtain ⟨i9, i10, ne⟩ := hS.bt
  have ot : ¬ Tor z (mR M z 9 + 1) ∧ ¬ Tor z (mR M z 9 + 3) := by
    unfold Tor
    rcases i9 with e | e <;> rw [e] <;> omega
  refine k_Sc_orderOfPicked hO ⟨hS.1.1, (f_Sc_order (d := d) ⟨hO, hF, hS, hS.frl i9, hf⟩ o1 o2 ot nf w9 w11).mono (fun x M' k => ?_)⟩
  exact ⟨by rcases k.2 with e | e | e <;> rw [e] <;> exact ⟨by decide, by decide⟩, k.1.ok, k⟩
end NBB
end
section
/-! New fractions. -/
section NBC
variable {G : mG} {d a z n m w S B u g R cn f F s i : Nat} {M M0 M' M1 M2 M3 : mM} {L L' : List Nat} {W : Nat → Nat}
theorem FA.ui {S R : Nat → Prop} {j : Nat} {x : Int} (ha : S a) (e : M' = mUI M a j x) : FA S R M M' := (show FI S M M' by rw [e]; exact FI.ui ha).fa
theorem s_Na_init (hO : mOk M) (h0 : 0 < a) (hk : mK M a = 10) (hz : a < mZ M) : Cv G y_Na_init (d + 1) [vr a] M (fun M' => mOk M' ∧ FA (fun x => x = a) (fun x => x = a) M M' ∧ (mZ M' = mZ M + 1 ∧ mS M' = mS M + 4) ∧ Nt M' a (mZ M) 4 0) := by
  refine k_Na_init hO ⟨h0, fun M2 e2 => ?_⟩
  have f2 : FA (fun x => x = a) (fun x => x = a) M M2 := FA.new e2
  refine ⟨by rw [(f2.2 a hz).1]; exact hk, fun M5 e5 M7 e7 => ?_⟩
  have f5 := f2.trans (FA.ur rfl e5)
  have f7 := f5.trans (FA.ui rfl e7)
  have z7 : mZ M7 = mZ M + 1 := by rw [e7, e5, e2]; rfl
  refine ⟨by rw [e7]; exact mOk_UI (by rw [e5]; exact mOk_UR (by rw [e2]; exact mOk_New hO)) ⟨by decide, by decide⟩, f7, ⟨z7, by rw [e7, e5, e2]; rfl⟩, ⟨by rw [(f7.2 a hz).1]; exact hk, ?_, ?_, ?_, ⟨by decide, by decide⟩, by omega, by omega, by omega⟩, by rw [mI_ui a 1 e7, if_pos ⟨rfl, rfl⟩]; rfl, by decide, fun j hj => absurd hj (by omega), fun u => absurd u (by omega)⟩
  · rw [e7]; show mR M5 a 0 = _; rw [e5, mR_UR, if_pos ⟨rfl, rfl⟩]
  · rw [e7]; show mK M5 (mZ M) = _; rw [e5]; show mK M2 (mZ M) = _; rw [e2, mK_New, if_pos rfl]
  · rw [e7]; show mN M5 (mZ M) = _; rw [e5]; show mN M2 (mZ M) = _; rw [e2, mN_New, if_pos rfl]
theorem s_Fr_init (hO : mOk M) (hk : mK M F = 11) (hz : mZ M = F + 1) (h0 : 0 < F) : Cv G y_Fr_init (d + 2) [vr F] M (fun M' => mOk M' ∧ FA (fun x => x = F) (fun x => x = F) M M' ∧ (mZ M' = F + 5 ∧ mS M' = mS M + 12) ∧ (mR M' F 0 = F + 1 ∧ mR M' F 1 = F + 3) ∧ Nt M' (F + 1) (F + 2) 4 0 ∧ Nt M' (F + 3) (F + 4) 4 0 ∧ mI M' F 2 = 1) := by
  refine k_Fr_init hO ⟨h0, fun M2 e2 => ?_⟩
  have f2 : FA (fun x => x = F) (fun x => x = F) M M2 := FA.new e2
  have z2 : mZ M2 = F + 2 := by rw [e2, mZ_New]; omega
  have s2 : mS M2 = mS M + 2 := by rw [e2, mS_New]
  have k2 : mK M2 (F + 1) = 10 := by rw [e2, mK_New, if_pos (by omega)]
  have o2 : mOk M2 := by rw [e2]; exact mOk_New hO
  rw [hz]
  refine (s_Na_init (d := d) (a := F + 1) o2 (by omega) k2 (by omega)).mono (fun M4 q => ?_)
  obtain ⟨o4, f4, ⟨z4, s4⟩, t4⟩ := q
  rw [z2] at t4 z4
  have F4 : FA (fun x => x = F) (fun x => x = F) M M4 := f2.trans2 f4 (fun x hx e => by have e' : x = F + 1 := e; omega) (fun x hx e => by have e' : x = F + 1 := e; omega)
  refine ⟨o4, by rw [(F4.2 F (by omega)).1]; exact hk, fun M8 e8 => ?_⟩
  have F8 : FA (fun x => x = F) (fun x => x = F) M M8 := F4.trans (FA.ur rfl e8)
  have z8 : mZ M8 = F + 3 := by rw [e8]; exact z4
  have o8 : mOk M8 := by rw [e8]; exact mOk_UR o4
  have s8 : mS M8 = mS M + 6 := by rw [e8, mS_UR, s4, s2]
  have t8 : Nt M8 (F + 1) (F + 2) 4 0 := t4.fa (S := fun _ => False) (R := fun x => x = F) (FA.ur rfl e8) (fun e => e) (fun e => e) (fun e => by have e' : F + 1 = F := e; omega)
  have r8 : mR M8 F 0 = F + 1 := by rw [e8, mR_UR, if_pos ⟨rfl, rfl⟩]
  rw [z8]
  intro M10 e10
  have g10 : FA (fun _ => False) (fun _ => False) M8 M10 := FA.new e10
  have z10 : mZ M10 = F + 4 := by rw [e10, mZ_New]; omega
  have k10 : mK M10 (F + 3) = 10 := by rw [e10, mK_New, if_pos (by omega)]
  have o10 : mOk M10 := by rw [e10]; exact mOk_New o8
  have t10 := t8.fa g10 (fun e => e) (fun e => e) (fun e => e)
  refine (s_Na_init (d := d) (a := F + 3) o10 (by omega) k10 (by omega)).mono (fun M12 q => ?_)
  obtain ⟨o12, f12, ⟨z12, s12⟩, t12⟩ := q
  rw [z10] at t12 z12
  have t12' := t10.fa f12 (fun e => by have e' : F + 1 = F + 3 := e; omega) (fun e => by have e' : F + 2 = F + 3 := e; omega) (fun e => by have e' : F + 1 = F + 3 := e; omega)
  have G12 : FA (fun x => x = F) (fun x => x = F) M8 M12 := (g10.mono (fun _ _ e => e.elim) (fun _ _ e => e.elim)).trans2 f12 (fun x hx e => by have e' : x = F + 3 := e; omega) (fun x hx e => by have e' : x = F + 3 := e; omega)
  have r12 : mR M12 F 0 = F + 1 := by
    rw [(f12.2 F (by omega)).2.2.2.1 (fun e => by have e' : F = F + 3 := e; omega), (g10.2 F (by omega)).2.2.2.1 (fun e => e)]
    exact r8
  refine ⟨o12, by rw [(G12.2 F (by omega)).1, (F8.2 F (by omega)).1]; exact hk, fun M16 e16 M18 e18 => ?_⟩
  have h16 : FA (fun x => x = F) (fun x => x = F) M12 M16 := FA.ur rfl e16
  have h18 : FA (fun x => x = F) (fun x => x = F) M16 M18 := FA.ui rfl e18
  have nF : ∀ {x : Nat}, x ≠ F → ¬ (fun x => x = F) x := fun h e => h e
  have u : ∀ {b X C s : Nat}, b ≠ F → X ≠ F → Nt M12 b X C s → Nt M18 b X C s := fun hb hX t => (t.fa h16 hb hX hb).fa h18 hb hX hb
  refine ⟨by rw [e18]; exact mOk_UI (by rw [e16]; exact mOk_UR o12) ⟨by decide, by decide⟩, ((F8.trans G12).trans h16).trans h18, ⟨by rw [e18, e16]; exact z12, ?_⟩, ⟨?_, ?_⟩, u (by omega) (by omega) t12', u (by omega) (by omega) t12, by rw [mI_ui F 2 e18, if_pos ⟨rfl, rfl⟩]⟩
  · have s10 : mS M10 = mS M8 + 2 := by rw [e10, mS_New]
    have s18 : mS M18 = mS M12 := by rw [e18, e16]; rfl
    omega
  · rw [e18]; show mR M16 F 0 = _; rw [e16, mR_UR, if_neg (fun u => absurd u.2 (by decide))]; exact r12
  · rw [e18]; show mR M16 F 1 = _; rw [e16, mR_UR, if_pos ⟨rfl, rfl⟩]
/-- the family grows by a fraction -/
theorem nf_grow {S R : Nat → Prop} (hF : NF L W M) (F1 : FA S R M M') (hS : ∀ x, x < mZ M → ¬ S x) (hR : ∀ x, x < mZ M → ¬ R x) (hf : mZ M ≤ F) (t1 : Nt M' (F + 1) (F + 2) 4 0) (t3 : Nt M' (F + 3) (F + 4) 4 0) (w1 : 2 ≤ W (F + 1) ∧ W (F + 1) ≤ 20000) (w3 : 2 ≤ W (F + 3) ∧ W (F + 3) ≤ 20000) : NF ((F + 1) :: (F + 3) :: L) W M' := by
  have lt : ∀ a, a ∈ L → a < F := fun a ha => Nat.lt_of_lt_of_le (hF.lt ha).1 hf
  have old : ∀ a, a ∈ L → Nt M' a (mR M a 0) (cp M a) (sz M a) := fun a ha => (hF.nt ha).fa F1 (hS _ (hF.lt ha).1) (hS _ (hF.lt ha).2) (hR _ (hF.lt ha).1)
  have r1 : mR M' (F + 1) 0 = F + 2 := t1.1.2.1
  have r3 : mR M' (F + 3) 0 = F + 4 := t3.1.2.1
  have ro : ∀ a, a ∈ L → mR M' a 0 = mR M a 0 ∧ mR M a 0 < F := fun a ha => ⟨(old a ha).1.2.1, Nat.lt_of_lt_of_le (hF.lt ha).2 hf⟩
  refine ⟨?_, fun a ha => ?_, fun a b ha hb u => ?_⟩
  · refine List.nodup_cons.2 ⟨fun h => ?_, List.nodup_cons.2 ⟨fun h => ?_, hF.1⟩⟩
    · rcases List.mem_cons.1 h with e | e
      · omega
      · have := lt _ e; omega
    · have := lt _ h; omega
  · rcases List.mem_cons.1 ha with e | e
    · rw [e]; exact ⟨t1.nn, by rw [t1.cp]; omega, w1⟩
    · rcases List.mem_cons.1 e with e | e
      · rw [e]; exact ⟨t3.nn, by rw [t3.cp]; omega, w3⟩
      · exact ⟨(old a e).nn, by rw [(old a e).cp]; exact (hF.2.1 a e).2.1, (hF.2.1 a e).2.2⟩
  · have cs : ∀ {a : Nat}, a ∈ (F + 1) :: (F + 3) :: L → a = F + 1 ∨ a = F + 3 ∨ a ∈ L := fun h => by
      rcases List.mem_cons.1 h with e | e
      · exact Or.inl e
      · rcases List.mem_cons.1 e with e | e
        · exact Or.inr (Or.inl e)
        · exact Or.inr (Or.inr e)
    rcases cs ha with e1 | e1 | e1 <;> rcases cs hb with e2 | e2 | e2
    · rw [e1, e2]
    · rw [e1, e2, r1, r3] at u; omega
    · rw [e1, r1, (ro b e2).1] at u; have := (ro b e2).2; omega
    · rw [e1, e2, r1, r3] at u; omega
    · rw [e1, e2]
    · rw [e1, r3, (ro b e2).1] at u; have := (ro b e2).2; omega
    · rw [e2, r1, (ro a e1).1] at u; have := (ro a e1).2; omega
    · rw [e2, r3, (ro a e1).1] at u; have := (ro a e1).2; omega
    · rw [(ro a e1).1, (ro b e2).1] at u
      exact hF.2.2 a b e1 e2 u
end NBC
end
section
/-! Tables of fractions grow. -/
section NBD
variable {G : mG} {d a z n m w S B u g R R' cn f F s i k K : Nat} {M M0 M' M1 M2 M3 : mM} {L L' L1 : List Nat} {W : Nat → Nat}
/-- a table of k fractions, at rest -/
def RwT (L : List Nat) (M : mM) (a R k : Nat) : Prop := mK M a = 13 ∧ mR M a 0 = R ∧ mK M R = 35 ∧ mN M R = k ∧ (Oc L M a ∧ Oc L M R) ∧ ∀ i, i < k → FrL L M (mR M R i)
theorem nf_ur {x j v : Nat} (hF : NF L W M) (hx : x ∉ L) (e : M' = mUR M x j v) : NF L W M' := by
  have ro : ∀ a, a ∈ L → mR M' a 0 = mR M a 0 := fun a ha => by rw [e, mR_UR, if_neg (fun u => hx (by rw [← u.1]; exact ha))]
  have nt' : ∀ a, a ∈ L → Nt M' a (mR M a 0) (cp M a) (sz M a) := fun a ha => (hF.nt ha).fa (S := fun _ => False) (R := fun y => y = x) (FA.ur rfl e) (fun u => u) (fun u => u) (fun u => hx (by rw [← u]; exact ha))
  exact ⟨hF.1, fun a ha => ⟨(nt' a ha).nn, by rw [(nt' a ha).cp]; exact (hF.2.1 a ha).2.1, (hF.2.1 a ha).2.2⟩, fun a b ha hb u => hF.2.2 a b ha hb (by rw [← ro a ha, ← ro b hb]; exact u)⟩
theorem FrP.fa {S R : Nat → Prop} (h : FrP M f) (F : FA S R M M') (hf : ¬ R f) : FrP M' f := by
  obtain ⟨h1, h2, h3⟩ := h
  exact ⟨by rw [(F.2 f h3).1]; exact h1, by rw [(F.2 f h3).2.2.2.1 hf]; exact h2, Nat.lt_of_lt_of_le h3 F.1.1⟩
/-- the new table on its way: e new fractions -/
def RvI (L : List Nat) (W : Nat → Nat) (M : mM) (R k K i : Nat) (L1 : List Nat) (M1 : mM) : Prop := (mOk M1 ∧ NF L1 W M1) ∧ FA (fun _ => False) (fun _ => False) M M1 ∧ (mK M1 (mZ M) = 35 ∧ mN M1 (mZ M) = K) ∧ (mZ M1 = mZ M + 1 + 5 * (i - k) ∧ mS M1 = mS M + K + 15 * (i - k)) ∧ (∀ j, j < i → mR M1 (mZ M) j = if j < k then mR M R j else mZ M + 1 + 5 * (j - k)) ∧ (∀ j, k ≤ j → j < i → FrL L1 M1 (mZ M + 1 + 5 * (j - k)) ∧ mI M1 (mZ M + 1 + 5 * (j - k)) 2 = 1) ∧ (Oc L1 M1 (mZ M) ∧ (∀ x, x ∈ L → x ∈ L1) ∧ (∀ x, x ∈ L1 → x ∈ L ∨ (mZ M < x ∧ mZ M < mR M1 x 0))) ∧ (L1.length = L.length + 2 * (i - k) ∧ psum (cp M1) L1 = psum (cp M) L + 8 * (i - k) ∧ psum (fun p => cp M1 p / 4) L1 = psum (fun p => cp M p / 4) L + 2 * (i - k))
/-- how a table grew -/
def rvG (L : List Nat) (M : mM) (R k : Nat) (L' : List Nat) (M' : mM) (R' k' : Nat) : Prop := R' = mZ M ∧ (k < k' ∧ k' ≤ 512 ∧ (2 * k ≤ k' ∨ k' = 512)) ∧ L'.length = L.length + 2 * (k' - k) ∧ (mZ M' = mZ M + 1 + 5 * (k' - k) ∧ mS M' = mS M + k' + 15 * (k' - k)) ∧ psum (cp M') L' = psum (cp M) L + 8 * (k' - k) ∧ psum (fun p => cp M' p / 4) L' = psum (fun p => cp M p / 4) L + 2 * (k' - k)
def rvQ (L : List Nat) (W : Nat → Nat) (a : Nat) (M : mM) (R k cnt : Nat) (M' : mM) : Prop := ∃ L' R' k', mOk M' ∧ NF L' W M' ∧ (∀ x, x ∈ L → x ∈ L') ∧ (∀ x, x ∈ L' → x ∈ L ∨ (mZ M < x ∧ mZ M < mR M' x 0)) ∧ RwT L' M' a R' k' ∧ (cnt ≤ k' ∧ k ≤ k') ∧ FA (fun _ => False) (fun x => x = a) M M' ∧ (∀ i, i ≠ 0 → mR M' a i = mR M a i) ∧ (∀ i, i < k → mR M' R' i = mR M R i) ∧ (∀ i, k ≤ i → i < k' → mR M' R' i = mZ M + 1 + 5 * (i - k) ∧ mI M' (mZ M + 1 + 5 * (i - k)) 2 = 1) ∧ ((M' = M ∧ L' = L ∧ R' = R ∧ k' = k) ∨ rvG L M R k L' M' R' k')
theorem s_rv_new (h : RvI L W M R k K i L1 M1) (hik : k ≤ i) (hiK : i < K) (hWn : ∀ x, mZ M < x → 2 ≤ W x ∧ W x ≤ 20000) (e33 : M2 = mNew M1 11 0 3) : Cv G y_Fr_init (d + 2) [vr (mZ M1)] M2 (fun M35 => mOk M35 ∧ (mK M35 (mZ M) = 35 ∧ ((0 : Int) ≤ i ∧ (i : Int) < (mN M35 (mZ M) : Int)) ∧ mK M35 (mZ M1) = 11 ∧ ∀ M41, M41 = mUR M35 (mZ M) i (mZ M1) → RvI L W M R k K (i + 1) ((mZ M1 + 1) :: (mZ M1 + 3) :: L1) M41)) := by
  obtain ⟨⟨o1, F1⟩, f1, ⟨kz, nz⟩, ⟨z1, s1⟩, rj, fj, ⟨oc, l1, l2⟩, ⟨g1, g2, g3⟩⟩ := h
  have f2 : FA (fun _ => False) (fun _ => False) M1 M2 := FA.new e33
  have z2 : mZ M2 = mZ M1 + 1 := by rw [e33, mZ_New]
  have s2 : mS M2 = mS M1 + 3 := by rw [e33, mS_New]
  have k2 : mK M2 (mZ M1) = 11 := by rw [e33, mK_New, if_pos rfl]
  have o2 : mOk M2 := by rw [e33]; exact mOk_New o1
  have eF : mZ M1 = mZ M + 1 + 5 * (i - k) := z1
  refine (s_Fr_init (d := d) (F := mZ M1) o2 k2 z2 (by omega)).mono (fun M35 q => ?_)
  obtain ⟨o35, f35, ⟨z35, s35⟩, ⟨r0, r1⟩, t1, t3, i2⟩ := q
  have F35 : FA (fun x => x = mZ M1) (fun x => x = mZ M1) M1 M35 := (f2.mono (fun _ _ e => e.elim) (fun _ _ e => e.elim)).trans f35
  have hlt : mZ M < mZ M1 := by omega
  have c35 := F35.2 (mZ M) hlt
  have k35 : mK M35 (mZ M1) = 11 := by rw [(f35.2 (mZ M1) (by omega)).1]; exact k2
  rw [c35.1, c35.2.1, nz]
  refine ⟨o35, kz, ⟨by omega, by omega⟩, k35, fun M41 e41 => ?_⟩
  have F41 : FA (fun _ => False) (fun x => x = mZ M) M35 M41 := FA.ur rfl e41
  have nL : mZ M ∉ (mZ M1 + 1) :: (mZ M1 + 3) :: L1 := fun u => by
    rcases List.mem_cons.1 u with e | e
    · omega
    · rcases List.mem_cons.1 e with e | e
      · omega
      · exact oc.2.1 e
  have nf35 : NF ((mZ M1 + 1) :: (mZ M1 + 3) :: L1) W M35 := nf_grow F1 F35 (fun x hx e => by have e' : x = mZ M1 := e; omega) (fun x hx e => by have e' : x = mZ M1 := e; omega) (Nat.le_refl _) t1 t3 (hWn _ (by omega)) (hWn _ (by omega))
  have nf41 := nf_ur nf35 nL e41
  have old : ∀ a, a ∈ L1 → cp M41 a = cp M1 a := fun a ha => by
    have z := F1.lt ha
    have t := (F1.nt ha).fa F35 (fun e => by have e' : a = mZ M1 := e; omega) (fun e => by have e' : mR M1 a 0 = mZ M1 := e; omega) (fun e => by have e' : a = mZ M1 := e; omega)
    exact (t.fa F41 (fun e => e) (fun e => e) (fun e => oc.2.1 (by rw [← e]; exact ha))).cp
  have n1 : mZ M1 + 1 ≠ mZ M := by omega
  have n3 : mZ M1 + 3 ≠ mZ M := by omega
  have c1 : cp M41 (mZ M1 + 1) = 4 := (t1.fa F41 (fun e => e) (fun e => e) n1).cp
  have c3 : cp M41 (mZ M1 + 3) = 4 := (t3.fa F41 (fun e => e) (fun e => e) n3).cp
  have fF : FrP M41 (mZ M1) := by
    have q : FrP M35 (mZ M1) := ⟨k35, ⟨r0, r1⟩, by omega⟩
    exact q.fa F41 (fun e => by have e' : mZ M1 = mZ M := e; omega)
  have z41 : mZ M41 = mZ M35 := by rw [e41]; rfl
  have s41 : mS M41 = mS M35 := by rw [e41]; rfl
  have ei : i + 1 - k = i - k + 1 := by omega
  refine ⟨⟨by rw [e41]; exact mOk_UR o35, nf41⟩, ?_, ⟨?_, ?_⟩, ⟨by omega, by omega⟩, fun j hj => ?_, fun j hj1 hj2 => ?_, ⟨⟨by omega, nL, fun a ha u => ?_⟩, fun x hx => List.mem_cons_of_mem _ (List.mem_cons_of_mem _ (l1 x hx)), fun x hx => ?_⟩, ?_⟩
  · exact (f1.trans2 F35 (fun x hx e => by have e' : x = mZ M1 := e; omega) (fun x hx e => by have e' : x = mZ M1 := e; omega)).trans2 F41 (fun _ _ e => e) (fun x hx e => by have e' : x = mZ M := e; omega)
  · rw [e41]; show mK M35 (mZ M) = _; rw [c35.1]; exact kz
  · rw [e41]; show mN M35 (mZ M) = _; rw [c35.2.1]; exact nz
  · rw [e41, mR_UR]
    by_cases e : j = i
    · rw [if_pos ⟨rfl, e⟩, if_neg (by omega), e]; omega
    · rw [if_neg (fun u => e u.2), c35.2.2.2.1 (fun e => by have e' : mZ M = mZ M1 := e; omega)]
      exact rj j (by omega)
  · by_cases e : j = i
    · rw [e, ← eF]
      exact ⟨⟨fF, List.mem_cons_self .., List.mem_cons_of_mem _ (List.mem_cons_self ..)⟩, by rw [e41]; exact i2⟩
    · obtain ⟨⟨p1, p2, p3⟩, p4⟩ := fj j hj1 (by omega)
      have lt : mZ M + 1 + 5 * (j - k) < mZ M1 := p1.2.2
      have q1 : FrP M35 (mZ M + 1 + 5 * (j - k)) := p1.fa F35 (fun e => by have e' : mZ M + 1 + 5 * (j - k) = mZ M1 := e; omega)
      refine ⟨⟨q1.fa F41 (fun e => by have e' : mZ M + 1 + 5 * (j - k) = mZ M := e; omega), List.mem_cons_of_mem _ (List.mem_cons_of_mem _ p2), List.mem_cons_of_mem _ (List.mem_cons_of_mem _ p3)⟩, ?_⟩
      rw [e41]
      show mI M35 _ 2 = 1
      rw [(F35.2 _ lt).2.2.2.2 (fun e => by have e' : mZ M + 1 + 5 * (j - k) = mZ M1 := e; omega)]
      exact p4
  · have z := nf41.lt ha
    rcases List.mem_cons.1 ha with e | e
    · rw [e, (t1.fa F41 (fun e => e) (fun e => e) n1).1.2.1] at u; omega
    · rcases List.mem_cons.1 e with e | e
      · rw [e, (t3.fa F41 (fun e => e) (fun e => e) n3).1.2.1] at u; omega
      · have t := (F1.nt e).fa F35 (fun e' => by have e'' : a = mZ M1 := e'; have := (F1.lt e).1; omega) (fun e' => by have e'' : mR M1 a 0 = mZ M1 := e'; have := (F1.lt e).2; omega) (fun e' => by have e'' : a = mZ M1 := e'; have := (F1.lt e).1; omega)
        have t' := t.fa F41 (fun e => e) (fun e => e) (fun e' => oc.2.1 (by rw [← e']; exact e))
        rw [t'.1.2.1] at u
        exact oc.2.2 a e u
  · rcases List.mem_cons.1 hx with e | e
    · exact Or.inr ⟨by omega, by rw [e, (t1.fa F41 (fun e => e) (fun e => e) n1).1.2.1]; omega⟩
    · rcases List.mem_cons.1 e with e | e
      · exact Or.inr ⟨by omega, by rw [e, (t3.fa F41 (fun e => e) (fun e => e) n3).1.2.1]; omega⟩
      · rcases l2 x e with q | q
        · exact Or.inl q
        · refine Or.inr ⟨q.1, ?_⟩
          have t := (F1.nt e).fa F35 (fun e' => by have e'' : x = mZ M1 := e'; have := (F1.lt e).1; omega) (fun e' => by have e'' : mR M1 x 0 = mZ M1 := e'; have := (F1.lt e).2; omega) (fun e' => by have e'' : x = mZ M1 := e'; have := (F1.lt e).1; omega)
          have t' := t.fa F41 (fun e => e) (fun e => e) (fun e' => oc.2.1 (by rw [← e']; exact e))
          rw [t'.1.2.1]
          exact q.2
  · refine ⟨by rw [List.length_cons, List.length_cons]; omega, ?_, ?_⟩
    · rw [psum, psum, c1, c3, psum_congr L1 old, g2]; omega
    · rw [psum, psum]
      show cp M41 (mZ M1 + 1) / 4 + (cp M41 (mZ M1 + 3) / 4 + psum (fun p => cp M41 p / 4) L1) = _
      rw [c1, c3, psum_congr (g := fun p => cp M1 p / 4) L1 (fun q hq => by show cp M41 q / 4 = cp M1 q / 4; rw [old q hq]), g3]
      omega
end NBD
end
section
/-! Tables of fractions: reserve, the whole. -/
section NBE
variable {G : mG} {d a z n m w S B u g R R' cn cnt f F s i k K : Nat} {M M0 M' M1 M2 M3 : mM} {L L' L1 : List Nat} {W : Nat → Nat}
theorem s_rv_cp (h : RvI L W M R k K i L1 M1) (hik : i < k) (hiK : i < K) {v : Nat} (hv : v = mR M R i) (e : M2 = mUR M1 (mZ M) i v) : RvI L W M R k K (i + 1) L1 M2 := by
  obtain ⟨⟨o1, F1⟩, f1, ⟨kz, nz⟩, ⟨z1, s1⟩, rj, fj, ⟨oc, l1, l2⟩, ⟨g1, g2, g3⟩⟩ := h
  have F2 : FA (fun _ => False) (fun x => x = mZ M) M1 M2 := FA.ur rfl e
  have ei : i + 1 - k = i - k := by omega
  have nf2 := nf_ur F1 oc.2.1 e
  have cc : ∀ a, a ∈ L1 → cp M2 a = cp M1 a := fun a ha => ((F1.nt ha).fa F2 (fun e => e) (fun e => e) (fun e' => oc.2.1 (by rw [← e']; exact ha))).cp
  have rr : ∀ a, a ∈ L1 → mR M2 a 0 = mR M1 a 0 := fun a ha => ((F1.nt ha).fa F2 (fun e => e) (fun e => e) (fun e' => oc.2.1 (by rw [← e']; exact ha))).1.2.1
  refine ⟨⟨by rw [e]; exact mOk_UR o1, nf2⟩, f1.trans2 F2 (fun _ _ e => e) (fun x hx e => by have e' : x = mZ M := e; omega), ⟨by rw [e]; exact kz, by rw [e]; exact nz⟩, ⟨by rw [e, ei]; exact z1, by rw [e, ei]; exact s1⟩, fun j hj => ?_, fun j hj1 hj2 => absurd hj2 (by omega), ⟨⟨by rw [e]; exact oc.1, oc.2.1, fun a ha u => oc.2.2 a ha (by rw [← rr a ha]; exact u)⟩, l1, fun x hx => (l2 x hx).imp (fun q => q) (fun q => ⟨q.1, by rw [rr x hx]; exact q.2⟩)⟩, by rw [ei]; exact g1, by rw [ei, psum_congr L1 cc]; exact g2, by rw [ei, psum_congr (g := fun p => cp M1 p / 4) L1 (fun q hq => by show cp M2 q / 4 = cp M1 q / 4; rw [cc q hq])]; exact g3⟩
  rw [e, mR_UR]
  by_cases c : j = i
  · rw [if_pos ⟨rfl, c⟩, c, if_pos hik, hv]
  · rw [if_neg (fun u => c u.2)]
    exact rj j (by omega)
/-- what stood apart stands apart -/
theorem rv_oc {x : Nat} (hF : NF L W M) (F1 : NF L1 W M1) (f1 : FA (fun _ => False) (fun _ => False) M M1) (l2 : ∀ x, x ∈ L1 → x ∈ L ∨ (mZ M < x ∧ mZ M < mR M1 x 0)) (hx : Oc L M x) : Oc L1 M1 x := by
  have zx := hx.1
  refine ⟨Nat.lt_of_lt_of_le hx.1 f1.1.1, fun u => ?_, fun b hb u => ?_⟩
  · rcases l2 x u with e | e
    · exact hx.2.1 e
    · omega
  · rcases l2 b hb with e | e
    · rw [(f1.2 b (hF.lt e).1).2.2.2.1 (fun e => e)] at u
      exact hx.2.2 b e u
    · omega
theorem oc_ur {x y j v : Nat} (h : Oc L M x) (hy : y ∉ L) (e : M' = mUR M y j v) : Oc L M' x := by
  refine ⟨by rw [e]; exact h.1, h.2.1, fun b hb u => h.2.2 b hb ?_⟩
  rw [e, mR_UR, if_neg (fun q => hy (by rw [← q.1]; exact hb))] at u
  exact u
/-- the loop -/
theorem s_rv32 (hF : NF L W M) (hT : RwT L M a R k) (hK : k < K ∧ K ≤ 512 ∧ (2 * k ≤ K ∨ K = 512)) (hc : cnt ≤ K) (hWn : ∀ x, mZ M < x → 2 ≤ W x ∧ W x ≤ 20000) : ∀ (t i : Nat) (L1 : List Nat) (M1 : mM), K ≤ i + t → i ≤ K → RvI L W M R k K i L1 M1 → h_Fs_reserve_32 G (d + 2) a (mZ M) i M1 (rvQ L W a M R k cnt) := by
  obtain ⟨t1, t2, t3, t4, ⟨t5, t6⟩, t7⟩ := id hT
  have za := t5.1
  have zR := t6.1
  intro t
  induction t with
  | zero =>
    intro i L1 M1 h1 h2 hI
    have ei : i = K := by omega
    subst ei
    obtain ⟨⟨o1, F1⟩, f1, ⟨kz, nz⟩, ⟨z1, s1⟩, rj, fj, ⟨oc, l1, l2⟩, ⟨g1, g2, g3⟩⟩ := hI
    refine k_Fs_reserve_32 o1 ⟨by omega, by omega⟩ ?_
    rw [kz, nz]
    refine ⟨rfl, ⟨by omega, by omega⟩, fun _ => ⟨by rw [(f1.2 a za).1]; exact t1, fun M20 e20 => ?_⟩, fun u => absurd (Int.le_refl _) u⟩
    have oa := rv_oc hF F1 f1 l2 t5
    have naL : a ∉ L1 := oa.2.1
    have F20 : FA (fun _ => False) (fun x => x = a) M1 M20 := FA.ur rfl e20
    have nf := nf_ur F1 naL e20
    have ff : FA (fun _ => False) (fun x => x = a) M M20 := (f1.mono (fun _ _ e => e) (fun _ _ e => e.elim)).trans F20
    have cc : ∀ b, b ∈ L1 → cp M20 b = cp M1 b := fun b hb => ((F1.nt hb).fa F20 (fun e => e) (fun e => e) (fun e => naL (by rw [← e]; exact hb))).cp
    have rz : mR M20 (mZ M) = mR M1 (mZ M) := by
      funext j
      rw [e20, mR_UR, if_neg (fun u => by omega)]
    have fr : ∀ {f : Nat}, FrP M1 f → FrP M20 f := fun hf => hf.fa F20 (fun e => by
      have e' := hf.1
      have e'' : mK M1 a = 13 := by rw [(f1.2 a za).1]; exact t1
      rw [e, e''] at e'
      omega)
    refine ⟨L1, mZ M, i, by rw [e20]; exact mOk_UR o1, nf, l1, fun x hx => (l2 x hx).imp (fun q => q) (fun q => ⟨q.1, by rw [((F1.nt hx).fa F20 (fun e => e) (fun e => e) (fun e => naL (by rw [← e]; exact hx))).1.2.1]; exact q.2⟩), ⟨by rw [(ff.2 a za).1]; exact t1, by rw [e20, mR_UR, if_pos ⟨rfl, rfl⟩], by rw [e20]; exact kz, by rw [e20]; exact nz, ⟨oc_ur oa naL e20, oc_ur oc naL e20⟩, fun j hj => ?_⟩, ⟨hc, by omega⟩, ff, fun j hj => by rw [e20, mR_UR, if_neg (fun u => hj u.2), (f1.2 a za).2.2.2.1 (fun e => e)], fun j hj => by rw [rz, rj j (by omega), if_pos hj], fun j hj1 hj2 => ⟨by rw [rz, rj j hj2, if_neg (by omega)], by rw [e20]; exact (fj j hj1 hj2).2⟩, Or.inr ⟨rfl, hK, g1, ⟨by rw [e20]; exact z1, by rw [e20]; exact s1⟩, by rw [psum_congr L1 cc]; exact g2, by rw [psum_congr (g := fun p => cp M1 p / 4) L1 (fun q hq => by show cp M20 q / 4 = cp M1 q / 4; rw [cc q hq])]; exact g3⟩⟩
    rw [rz, rj j hj]
    by_cases c : j < k
    · rw [if_pos c]
      obtain ⟨p1, p2, p3⟩ := t7 j c
      exact ⟨fr (p1.fa f1 (fun e => e)), l1 _ p2, l1 _ p3⟩
    · rw [if_neg c]
      obtain ⟨⟨p1, p2, p3⟩, -⟩ := fj j (by omega) hj
      exact ⟨fr p1, p2, p3⟩
  | succ t ih =>
    intro i L1 M1 h1 h2 hI
    by_cases ei : i = K
    · exact ih i L1 M1 (by omega) h2 hI
    have hiK : i < K := by omega
    obtain ⟨⟨o1, F1⟩, f1, ⟨kz, nz⟩, ⟨z1, s1⟩, rj, fj, -, -⟩ := id hI
    have ra : mR M1 a 0 = R := by rw [(f1.2 a za).2.2.2.1 (fun e => e)]; exact t2
    refine k_Fs_reserve_32 o1 ⟨by omega, by omega⟩ ?_
    rw [kz, nz, ra, (f1.2 R zR).1, (f1.2 R zR).2.1, t3, t4, Int.toNat_natCast, (f1.2 a za).1, show ((i : Int) + 1) = ((i + 1 : Nat) : Int) by omega]
    refine ⟨rfl, ⟨by omega, by omega⟩, fun u => absurd u (by omega), fun _ => ⟨t1, rfl, ⟨by omega, by omega⟩, fun u M33 e33 => (s_rv_new (d := d) hI (by omega) hiK hWn e33).mono (fun M35 q => ?_), fun u => ⟨⟨by omega, by omega⟩, ⟨by omega, by omega⟩, ?_, fun M46 e46 => ?_⟩⟩⟩
    · obtain ⟨q1, q2, q3, q4, q5⟩ := q
      exact ⟨q1, q2, q3, q4, fun M41 e41 => ih (i + 1) _ M41 (by omega) (by omega) (q5 M41 e41)⟩
    · rw [(f1.2 R zR).2.2.2.1 (fun e => e), (f1.2 _ (t7 i (by omega)).1.2.2).1]
      exact (t7 i (by omega)).1.1
    · refine ih (i + 1) L1 M46 (by omega) (by omega) (s_rv_cp hI (by omega) hiK ?_ e46)
      rw [(f1.2 R zR).2.2.2.1 (fun e => e)]
/-- room for cnt fractions -/
theorem f_Fs_reserve (hO : mOk M) (hF : NF L W M) (hT : RwT L M a R k) (hk : k ≤ 512) (hc : cnt ≤ 512) (hWn : ∀ x, mZ M < x → 2 ≤ W x ∧ W x ≤ 20000) : Cv G y_Fs_reserve (d + 3) [vr a, vi cnt] M (rvQ L W a M R k cnt) := by
  obtain ⟨t1, t2, t3, t4, ⟨t5, t6⟩, t7⟩ := id hT
  refine k_Fs_reserve hO ⟨by omega, by omega⟩ ?_
  rw [t2, t4]
  refine ⟨t1, t3, ⟨by omega, by omega⟩, fun u => ?_, fun u => ⟨⟨by omega, by omega⟩, ?_⟩⟩
  · exact ⟨L, R, k, hO, hF, fun _ h => h, fun _ h => Or.inl h, hT, ⟨by omega, Nat.le_refl _⟩, FA.refl, fun _ _ => rfl, fun _ _ => rfl, fun i h1 h2 => absurd h2 (by omega), Or.inl ⟨rfl, rfl, rfl, rfl⟩⟩
  · obtain ⟨K, eK, K1, K2⟩ : ∃ K : Nat, (if (if ((cnt : Nat) : Int) < 2 * ((k : Nat) : Int) then 2 * ((k : Nat) : Int) else ((cnt : Nat) : Int)) < 512 then (if ((cnt : Nat) : Int) < 2 * ((k : Nat) : Int) then 2 * ((k : Nat) : Int) else ((cnt : Nat) : Int)) else 512) = ((K : Nat) : Int) ∧ (k < K ∧ K ≤ 512 ∧ (2 * k ≤ K ∨ K = 512)) ∧ cnt ≤ K := by
      by_cases c1 : ((cnt : Nat) : Int) < 2 * ((k : Nat) : Int)
      · rw [if_pos c1]
        by_cases c2 : 2 * ((k : Nat) : Int) < 512
        · rw [if_pos c2]; exact ⟨2 * k, by omega, by omega, by omega⟩
        · rw [if_neg c2]; exact ⟨512, rfl, by omega, by omega⟩
      · rw [if_neg c1]
        by_cases c2 : ((cnt : Nat) : Int) < 512
        · rw [if_pos c2]; exact ⟨cnt, rfl, by omega, Nat.le_refl _⟩
        · rw [if_neg c2]; exact ⟨512, rfl, by omega, by omega⟩
    rw [eK, Int.toNat_natCast]
    refine ⟨⟨by omega, by omega⟩, fun M9 e9 => ?_⟩
    have f9 : FA (fun _ => False) (fun _ => False) M M9 := FA.new e9
    have nt9 : ∀ b, b ∈ L → Nt M9 b (mR M b 0) (cp M b) (sz M b) := fun b hb => (hF.nt hb).fa f9 (fun e => e) (fun e => e) (fun e => e)
    have nf9 : NF L W M9 := ⟨hF.1, fun b hb => ⟨(nt9 b hb).nn, by rw [(nt9 b hb).cp]; exact (hF.2.1 b hb).2.1, (hF.2.1 b hb).2.2⟩, fun b c hb hc u => hF.2.2 b c hb hc (by rw [← (nt9 b hb).1.2.1, ← (nt9 c hc).1.2.1]; exact u)⟩
    have cc : ∀ b, b ∈ L → cp M9 b = cp M b := fun b hb => (nt9 b hb).cp
    have nz : mZ M ∉ L := fun u => by have := (hF.lt u).1; omega
    refine s_rv32 (d := d) hF hT K1 K2 hWn K 0 L M9 (by omega) (by omega) ⟨⟨by rw [e9]; exact mOk_New hO, nf9⟩, f9, ⟨by rw [e9, mK_New, if_pos rfl], by rw [e9, mN_New, if_pos rfl]⟩, ⟨by rw [e9, mZ_New]; omega, by rw [e9, mS_New]; omega⟩, fun j hj => absurd hj (by omega), fun j _ hj => absurd hj (by omega), ⟨⟨by rw [e9, mZ_New]; omega, nz, fun b hb u => ?_⟩, fun _ h => h, fun _ h => Or.inl h⟩, by omega, ?_, ?_⟩
    · rw [(nt9 b hb).1.2.1] at u
      have := (hF.lt hb).2
      omega
    · rw [psum_congr L cc]; omega
    · rw [psum_congr (g := fun p => cp M p / 4) L (fun q hq => by show cp M9 q / 4 = cp M q / 4; rw [cc q hq])]; omega
end NBE
end
