/-! The Scales: picking, the whole. -/
section NBB
variable {G : mG} {d b c z n m w S x y B u g a R cn bc f s i fr to : Nat} {M M0 M' M1 M2 M3 : mM} {L : List Nat} {W : Nat → Nat} {T T' I I' : Nat → Prop} {r : Prop} {sh t : Int}
theorem cmdG.same (h : cmdG M g cn bc c) (e : ∀ i, i ≤ 9 → mI M' (g + i) = mI M (g + i)) : cmdG M' g cn bc c := h.cg ⟨by rw [e 7 (by decide)], by rw [e 7 (by decide)]⟩ (by rw [e 6 (by decide)]) (by rw [e 5 (by decide)]) (fun i _ => ⟨by rw [e 8 (by decide)], by rw [e 9 (by decide)]⟩) (Nat.le_refl _) (Nat.le_refl _)
/-- what the best of the commands fr to fr + i is worth -/
noncomputable def pkv (l4 : Int) (M : mM) (R g fr i : Nat) : Rat := bst9 (l4 ≠ 0) (fun j => wr9 (rwv M R) (cmm M g (fr + j))) i
/-- the two worths change places -/
theorem nl_swap (hO : mOk M) (hF : NF L W M) (hS : SK L M z) (e1 : M1 = mUR M z 9 (mR M z 10)) (e2 : M2 = mUR M1 z 10 (mR M z 9)) : NL L W (Tpk z) (Ipk z) True z M M2 ∧ SK L M2 z ∧ (∀ a, a ∈ L → nv M2 a = nv M a) ∧ mI M2 = mI M ∧ (mR M2 z 9 = mR M z 10 ∧ mR M2 z 10 = mR M z 9) := by
  have rr : ∀ a j, mR M2 a j = if a = z ∧ j = 10 then mR M z 9 else if a = z ∧ j = 9 then mR M z 10 else mR M a j := fun a j => by rw [e2, mR_UR, e1, mR_UR]
  have ro : ∀ a, a ≠ z → mR M2 a = mR M a := fun a ha => by
    funext j
    rw [rr, if_neg (fun u => ha u.1), if_neg (fun u => ha u.1)]
  have r9 : mR M2 z 9 = mR M z 10 := by rw [rr, if_neg (fun u => absurd u.2 (by decide)), if_pos ⟨rfl, rfl⟩]
  have r10 : mR M2 z 10 = mR M z 9 := by rw [rr, if_pos ⟨rfl, rfl⟩]
  have ri : ∀ j, j ≠ 9 → j ≠ 10 → mR M2 z j = mR M z j := fun j h9 h10 => by rw [rr, if_neg (fun u => h10 u.2), if_neg (fun u => h9 u.2)]
  have kk : mK M2 = mK M := by rw [e2, e1]; rfl
  have nn : mN M2 = mN M := by rw [e2, e1]; rfl
  have ii : mI M2 = mI M := by rw [e2, e1]; rfl
  have ll : mL M2 = mL M := by rw [e2, e1]; rfl
  have zz : mZ M2 = mZ M := by rw [e2, e1]; rfl
  have ss : mS M2 = mS M := by rw [e2, e1]; rfl
  have o2 : mOk M2 := by rw [e2, e1]; exact mOk_UR (mOk_UR hO)
  have nz : ∀ a, a ∈ L → a ≠ z := fun a ha => (hF.nz hS.1.1 ha).1
  have nt' : ∀ a, a ∈ L → Nt M2 a (mR M a 0) (cp M a) (sz M a) := fun a ha => by
    have t := hF.nt ha
    unfold Nt Nl lim at t ⊢
    rw [kk, nn, ro a (nz a ha), ii, zz]
    exact t
  have cc : ∀ a, a ∈ L → cp M2 a = cp M a := fun a ha => (nt' a ha).cp
  refine ⟨⟨⟨o2, hF.1, fun a ha => ⟨(nt' a ha).nn, by rw [cc a ha]; exact (hF.2.1 a ha).2.1, (hF.2.1 a ha).2.2⟩, fun a b ha hb u => hF.2.2 a b ha hb (by rw [← ro a (nz a ha), ← ro b (nz b hb)]; exact u)⟩, ⟨hS.tpk, hS.ipk, hS.z9⟩, ⟨⟨by rw [zz]; exact Nat.le_refl _, by rw [ss]; exact Nat.le_refl _⟩, fun x _ => ⟨by rw [kk], by rw [nn], fun _ => by rw [ll], fun u => ro x (fun e => u (Or.inr ⟨e, trivial⟩)), fun _ => by rw [ii]⟩⟩, fun t ht => Or.inl (by rw [ro t (nz t (hS.tpk t ht))]), ?_⟩, ?_, fun a ha => (nt' a ha).nv.trans (by rw [ii]; rfl), ii, r9, r10⟩
  · unfold RmN
    rw [psum_congr L (fun q hq => (cc q hq)), psum_congr (f := fun p => cp M2 p / 4) (g := fun p => cp M p / 4) L (fun q hq => by show cp M2 q / 4 = cp M q / 4; rw [cc q hq]), zz, ss]
    exact ⟨Nat.le_refl _, Nat.le_refl _⟩
  · obtain ⟨k1, k2, k3, k4, ⟨k5, k6⟩, k7, k8⟩ := id hS
    have n18 : z + 18 ≠ z := by omega
    have n23 : z + 23 ≠ z := by omega
    unfold SK FrP
    rw [kk, nn, zz, ri 0 (by decide) (by decide), ri 1 (by decide) (by decide), ri 2 (by decide) (by decide), ri 3 (by decide) (by decide), ri 4 (by decide) (by decide), ri 5 (by decide) (by decide), ri 6 (by decide) (by decide), ri 7 (by decide) (by decide), ri 8 (by decide) (by decide), r9, r10, ro _ n18, ro _ n23]
    exact ⟨k1, k2, k3.elim (fun u => Or.inr ⟨u.2, u.1⟩) (fun u => Or.inl ⟨u.2, u.1⟩), k4, ⟨k5, k6⟩, k7, k8⟩
theorem s_pk20 {l4 : Int} (h4 : i32 l4) (hE0 : Pe L W z g a R cn M0) (hrs0 : Rsm M0 R cn S) (hW : ∀ x, Tpk z x → B ≤ W x) (b1 : 16 * S + 10 ≤ B) (hB : B ≤ 16000) (hto : to ≤ 4096) (hcn : cn ≤ 512) (hbc : bc ≤ 4096) (hcm : ∀ c, fr ≤ c → c < to → cmdG M0 g cn bc c) : ∀ (t p c : Nat) (M : mM), to ≤ c + t → fr ≤ p → p < to → fr + 1 ≤ c → c ≤ to → NL L W (Tpk z) (Ipk z) True z M0 M → SK L M z → Bst M0 R cn S M (mR M z 9) → BsV M0 R cn M (mR M z 9) (pkv l4 M0 R g fr (c - 1 - fr)) → h_Sc_pick_20 G (d + 5) z g to l4 a p c M (fun x M' => pkQ L W z R cn S fr to M0 x M' ∧ BsV M0 R cn M' (mR M' z 9) (pkv l4 M0 R g fr (to - 1 - fr))) := by
  intro t
  induction t with
  | zero =>
    intro p c M h1 h2 h3 h5 h6 hN hS hb hv9
    have ec : c = to := by omega
    rw [ec] at hv9
    exact k_Sc_pick_20 hN.ok ⟨by omega, by omega⟩ h4 ⟨by omega, by omega⟩ ⟨by omega, by omega⟩ ⟨fun _ => ⟨⟨hN, hS, hb, by omega, by omega⟩, hv9⟩, fun u => absurd u (by omega)⟩
  | succ t ih =>
    intro p c M h1 h2 h3 h5 h6 hN hS hb hv9
    obtain ⟨hE, e9, eR, vals⟩ := hE0.nl hN hS
    refine k_Sc_pick_20 hN.ok ⟨by omega, by omega⟩ h4 ⟨by omega, by omega⟩ ⟨by omega, by omega⟩ ⟨fun u => ⟨⟨hN, hS, hb, by omega, by omega⟩, by
      have ec : c = to := by omega
      rw [ec] at hv9
      exact hv9⟩, fun u => ?_⟩
    have hrs : Rsm M R cn S := fun i hi => by
      rw [eR, (vals i hi).1, (vals i hi).2]
      exact hrs0 i hi
    have hle : Rle M0 R cn → Rle M R cn := fun q i hi => by
      rw [eR, (vals i hi).1, (vals i hi).2]
      exact q i hi
    rw [show ((c : Int) + 1) = ((c + 1 : Nat) : Int) by omega]
    have ew : wr9 (rwv M R) (cmm M g c) = wr9 (rwv M0 R) (cmm M0 g c) := by
      rw [cmm_same e9]
      exact wr_cg (fun b hb => by
        have lt := cmm_lt (hcm c (by omega) (by omega)) b hb
        exact rwv_cg eR (vals _ lt).1 (vals _ lt).2)
    refine s_pkStep (d := d) hE hrs hW b1 hB hb (by omega) hcn hbc ((hcm c (by omega) (by omega)).same e9) hle hv9 (fun x M12 n1 sk1 rz bb bt xi bv bw ox => ?_)
    rw [ew] at bw ox
    have e0 : pkv l4 M0 R g fr (c + 1 - 1 - fr) = @ite Rat ((l4 ≠ 0 ∧ pkv l4 M0 R g fr (c - 1 - fr) < wr9 (rwv M0 R) (cmm M0 g c)) ∨ (¬ l4 ≠ 0 ∧ wr9 (rwv M0 R) (cmm M0 g c) < pkv l4 M0 R g fr (c - 1 - fr))) (Classical.propDecidable _) (wr9 (rwv M0 R) (cmm M0 g c)) (pkv l4 M0 R g fr (c - 1 - fr)) := by
      have e1 : c + 1 - 1 - fr = c - 1 - fr + 1 := by omega
      have e2 : fr + (c - 1 - fr + 1) = c := by omega
      rw [e1]
      show @ite Rat ((l4 ≠ 0 ∧ pkv l4 M0 R g fr (c - 1 - fr) < wr9 (rwv M0 R) (cmm M0 g (fr + (c - 1 - fr + 1)))) ∨ (¬ l4 ≠ 0 ∧ wr9 (rwv M0 R) (cmm M0 g (fr + (c - 1 - fr + 1))) < pkv l4 M0 R g fr (c - 1 - fr))) (Classical.propDecidable _) (wr9 (rwv M0 R) (cmm M0 g (fr + (c - 1 - fr + 1)))) (pkv l4 M0 R g fr (c - 1 - fr)) = _
      rw [e2]
    have kv : ((l4 = 0 ∧ 0 ≤ x) ∨ (l4 ≠ 0 ∧ x ≤ 0)) → BsV M0 R cn M12 (mR M z 9) (pkv l4 M0 R g fr (c + 1 - 1 - fr)) := fun hx l => by
      rw [e0, if_neg, bv l]
      intro y
      have o := ox l
      rcases y with ⟨y1, y2⟩ | ⟨y1, y2⟩
      · rcases o with ⟨o1, o2⟩ | ⟨o1, o2⟩ | ⟨o1, o2⟩
        · rw [o2] at y2
          exact Rat.lt_irrefl y2
        · omega
        · exact rat3.1 y2 o2
      · rcases o with ⟨o1, o2⟩ | ⟨o1, o2⟩ | ⟨o1, o2⟩
        · rw [o2] at y2
          exact Rat.lt_irrefl y2
        · exact rat3.1 y2 o2
        · omega
    have tv : ((l4 = 0 ∧ ¬ 0 ≤ x) ∨ (l4 ≠ 0 ∧ ¬ x ≤ 0)) → BsV M0 R cn M12 (mR M z 10) (pkv l4 M0 R g fr (c + 1 - 1 - fr)) := fun hx l => by
      rw [e0, if_pos, bw l]
      have o := ox l
      rcases hx with ⟨y1, y2⟩ | ⟨y1, y2⟩
      · refine Or.inr ⟨fun w => w y1, ?_⟩
        rcases o with ⟨o1, o2⟩ | ⟨o1, o2⟩ | ⟨o1, o2⟩
        · omega
        · omega
        · exact o2
      · refine Or.inl ⟨y1, ?_⟩
        rcases o with ⟨o1, o2⟩ | ⟨o1, o2⟩ | ⟨o1, o2⟩
        · omega
        · exact o2
        · omega
    have N1 := hN.trans n1
    have keep : ((l4 = 0 ∧ 0 ≤ x) ∨ (l4 ≠ 0 ∧ x ≤ 0)) → h_Sc_pick_20 G (d + 5) z g to l4 a p ((c + 1 : Nat) : Int) M12 (fun x M' => pkQ L W z R cn S fr to M0 x M' ∧ BsV M0 R cn M' (mR M' z 9) (pkv l4 M0 R g fr (to - 1 - fr))) := fun hx => ih p (c + 1) M12 (by omega) h2 h3 (by omega) (by omega) N1 sk1 (by rw [rz]; exact bb) (by rw [rz]; exact kv hx)
    have take : ((l4 = 0 ∧ ¬ 0 ≤ x) ∨ (l4 ≠ 0 ∧ ¬ x ≤ 0)) → ∀ M29, M29 = mUR M12 z 9 (mR M12 z 10) → ∀ M31, M31 = mUR M29 z 10 (mR M12 z 9) → h_Sc_pick_20 G (d + 5) z g to l4 a c ((c + 1 : Nat) : Int) M31 (fun x M' => pkQ L W z R cn S fr to M0 x M' ∧ BsV M0 R cn M' (mR M' z 9) (pkv l4 M0 R g fr (to - 1 - fr))) := fun hx M29 e29 M31 e31 => by
      obtain ⟨n2, sk2, vv, ii, r9, r10⟩ := nl_swap N1.ok N1.nf sk1 e29 e31
      obtain ⟨i9, i10, -⟩ := sk1.bt
      have f10 := sk1.frl i10
      refine ih c (c + 1) M31 (by omega) (by omega) (by omega) (by omega) (by omega) (N1.trans n2) sk2 ?_ ?_
      rotate_left
      · rw [r9]
        exact (show BsV M0 R cn M12 (mR M12 z 10) (pkv l4 M0 R g fr (c + 1 - 1 - fr)) by rw [rz]; exact tv hx).cg (vv _ f10.2.1) (vv _ f10.2.2) (by rw [ii])
      rw [r9]
      exact (show Bst M0 R cn S M12 (mR M12 z 10) by rw [rz]; exact bt).cg (vv _ f10.2.1) (vv _ f10.2.2) (by rw [ii])
    exact ⟨fun y => ⟨fun y' => keep (Or.inl ⟨y, y'⟩), fun y' => ⟨sk1.1.1, take (Or.inl ⟨y, y'⟩)⟩⟩, fun y => ⟨fun y' => keep (Or.inr ⟨y, y'⟩), fun y' => ⟨sk1.1.1, take (Or.inr ⟨y, y'⟩)⟩⟩⟩
/-- the best command is picked -/
theorem f_pickX {l4 : Int} (h4 : i32 l4) (hE : Pe L W z g a R cn M) (hrs : Rsm M R cn S) (hW : ∀ x, Tpk z x → B ≤ W x) (b1 : 16 * S + 10 ≤ B) (hB : B ≤ 16000) (hft : fr < to) (hto : to ≤ 4096) (hcn : cn ≤ 512) (hbc : bc ≤ 4096) (hcm : ∀ c, fr ≤ c → c < to → cmdG M g cn bc c) : Ci G y_Sc_pick (d + 6) [vr z, vr g, vi fr, vi to, vi l4, vr a] M (fun x M' => pkQ L W z R cn S fr to M x M' ∧ BsV M R cn M' (mR M' z 9) (pkv l4 M R g fr (to - 1 - fr))) := by
  obtain ⟨i9, i10, ne⟩ := hE.1.2.2.bt
  obtain ⟨mu, hm, emu, k⟩ := f_weighX (G := G) (d := d) (B := B) (S := S) (hE.we i9) hrs (fun x hx => hW x (tw_pk i9 hx)) (by omega) hB (show fr < 4096 by omega) hcn hbc (hcm fr (Nat.le_refl _) hft)
  refine k_Sc_pick hE.1.1 ⟨by omega, by omega⟩ ⟨by omega, by omega⟩ h4 ⟨hE.1.2.2.1.1, k.mono (fun M2 qv => ?_)⟩
  obtain ⟨q, qv⟩ := qv
  have bv : BsV M R cn M2 (mR M z 9) (wr9 (rwv M R) (cmm M g fr)) := by
    have := wv_bs qv (show (0 : Int) < ((mu : Nat) : Int) by omega) q.2.2.2.1 (fun l => (q.2.2.2.2 l).2)
    unfold wr9
    rw [emu]
    exact this
  have rz : mR M2 z = mR M z := (q.1.2.2.1.2 z hE.1.2.2.1.2).2.2.2.1 (fun u => u.elim (fun u => (hE.1.2.1.nz hE.1.2.2.1.1 (hE.1.2.2.tpk z (tw_pk i9 u))).1 rfl) (fun u => u.2))
  obtain ⟨n1, sk, bt⟩ := wg_pk hE i9 hm q
  rw [show ((fr : Int) + 1) = ((fr + 1 : Nat) : Int) by omega]
  exact ⟨n1.ok, s_pk20 (d := d) h4 hE hrs hW b1 hB hto hcn hbc hcm to fr (fr + 1) M2 (by omega) (Nat.le_refl _) hft (by omega) (by omega) n1 sk (by rw [rz]; exact bt) (by
    rw [rz, show fr + 1 - 1 - fr = 0 by omega]
    exact bv)⟩
theorem f_pick {l4 : Int} (h4 : i32 l4) (hE : Pe L W z g a R cn M) (hrs : Rsm M R cn S) (hW : ∀ x, Tpk z x → B ≤ W x) (b1 : 16 * S + 10 ≤ B) (hB : B ≤ 16000) (hft : fr < to) (hto : to ≤ 4096) (hcn : cn ≤ 512) (hbc : bc ≤ 4096) (hcm : ∀ c, fr ≤ c → c < to → cmdG M g cn bc c) : Ci G y_Sc_pick (d + 6) [vr z, vr g, vi fr, vi to, vi l4, vr a] M (pkQ L W z R cn S fr to M) := (f_pickX h4 hE hrs hW b1 hB hft hto hcn hbc hcm).mono (fun x M' k => k.1)
/-- the kept worth against a fraction -/
theorem f_orderOfPicked (hO : mOk M) (hF : NF L W M) (hS : SK L M z) (hf : FrL L M f) (o1 : Osz M (mR M z 9) s) (o2 : Osz M f s) (nf : ¬ Tor z (f + 1) ∧ ¬ Tor z (f + 3)) (w9 : 2 * s + 1 ≤ W (z + 9)) (w11 : 2 * s + 1 ≤ W (z + 11)) : Ci G y_Sc_orderOfPicked (d + 6) [vr z, vr f] M (fun x M' => NL L W (Tor z) (fun _ => False) False z M M' ∧ (x = -1 ∨ x = 0 ∨ x = 1)) := by
  obtain ⟨i9, i10, ne⟩ := hS.bt
  have ot : ¬ Tor z (mR M z 9 + 1) ∧ ¬ Tor z (mR M z 9 + 3) := by
    unfold Tor
    rcases i9 with e | e <;> rw [e] <;> omega
  refine k_Sc_orderOfPicked hO ⟨hS.1.1, (f_Sc_order (d := d) ⟨hO, hF, hS, hS.frl i9, hf⟩ o1 o2 ot nf w9 w11).mono (fun x M' k => ?_)⟩
  exact ⟨by rcases k.2 with e | e | e <;> rw [e] <;> exact ⟨by decide, by decide⟩, k.1.ok, k⟩
end NBB
