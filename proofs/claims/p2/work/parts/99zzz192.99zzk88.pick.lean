section
/-! The Scales: the best command is picked. -/
section NBA
variable {G : mG} {d b c z n m w S x y B u g a R cn bc f s i to : Nat} {M M0 M' M1 M2 M3 : mM} {L : List Nat} {W : Nat → Nat} {T T' I I' : Nat → Prop} {r : Prop} {sh t : Int}
/-- all numbers of the Scales -/
def Tpk (z x : Nat) : Prop := T4 z x ∨ Tor z x ∨ (x = z + 14 ∨ x = z + 16) ∨ T2 (z + 18) x ∨ T2 (z + 23) x
def Ipk (z x : Nat) : Prop := x = z + 18 ∨ x = z + 23
/-- a row lies apart -/
def Rap (z f : Nat) : Prop := ¬ Tpk z (f + 1) ∧ ¬ Tpk z (f + 3) ∧ f ≠ z + 18 ∧ f ≠ z + 23
theorem Rap.dw (h : Rap z f) (hw : Ipk z w) : Dwg z w f := by
  obtain ⟨h1, h2, h3, h4⟩ := h
  have tw : ∀ x, Twg z w x → Tpk z x := by
    intro x hx
    rcases hx with u | u | u | u | u | u
    · exact Or.inl u
    · exact Or.inr (Or.inl (Or.inr u))
    · exact Or.inr (Or.inr (Or.inl (Or.inl u)))
    · exact Or.inr (Or.inr (Or.inl (Or.inr u)))
    · rcases hw with e | e <;> rw [e] at u
      · exact Or.inr (Or.inr (Or.inr (Or.inl (Or.inl u))))
      · exact Or.inr (Or.inr (Or.inr (Or.inr (Or.inl u))))
    · rcases hw with e | e <;> rw [e] at u
      · exact Or.inr (Or.inr (Or.inr (Or.inl (Or.inr u))))
      · exact Or.inr (Or.inr (Or.inr (Or.inr (Or.inr u))))
  refine ⟨?_, fun u => h1 (tw _ u), fun u => h2 (tw _ u), ?_⟩
  · unfold T4
    rcases hw with e | e <;> subst e <;> omega
  · rcases hw with e | e
    · rw [e]; exact h3
    · rw [e]; exact h4
theorem tw_pk (hw : Ipk z w) {x : Nat} (hx : Twg z w x) : Tpk z x := by
  rcases hx with u | u | u | u | u | u
  · exact Or.inl u
  · exact Or.inr (Or.inl (Or.inr u))
  · exact Or.inr (Or.inr (Or.inl (Or.inl u)))
  · exact Or.inr (Or.inr (Or.inl (Or.inr u)))
  · rcases hw with e | e <;> rw [e] at u
    · exact Or.inr (Or.inr (Or.inr (Or.inl (Or.inl u))))
    · exact Or.inr (Or.inr (Or.inr (Or.inr (Or.inl u))))
  · rcases hw with e | e <;> rw [e] at u
    · exact Or.inr (Or.inr (Or.inr (Or.inl (Or.inr u))))
    · exact Or.inr (Or.inr (Or.inr (Or.inr (Or.inr u))))
theorem SK.tpk (h : SK L M z) : ∀ t, Tpk z t → t ∈ L := by
  intro t ht
  obtain ⟨-, -, -, -, -, ⟨h1, h2, h3, h4, h5, h6, h7, h8⟩, ⟨h9, h10, h11, h12⟩⟩ := id h
  rcases ht with u | (u | u) | (u | u) | (u | u) | (u | u)
  · exact h.t4 t u
  · rw [u]; exact h5
  · rw [u]; exact h6
  · rw [u]; exact h7
  · rw [u]; exact h8
  · rw [u]; exact h9
  · rw [u]; exact h10
  · rw [u]; exact h11
  · rw [u]; exact h12
theorem SK.ipk (h : SK L M z) : ∀ x, Ipk z x → x < mZ M ∧ mK M x = 11 := by
  intro x hx
  obtain ⟨-, -, -, -, ⟨h1, h2⟩, -⟩ := h
  rcases hx with u | u
  · rw [u]; exact ⟨h1.2.2, h1.1⟩
  · rw [u]; exact ⟨h2.2.2, h2.1⟩
theorem SK.frl (h : SK L M z) (hw : Ipk z w) : FrL L M w := by
  obtain ⟨-, -, -, -, ⟨h1, h2⟩, -, ⟨h9, h10, h11, h12⟩⟩ := h
  rcases hw with u | u
  · rw [u]; exact ⟨h1, h9, h10⟩
  · rw [u]; exact ⟨h2, h11, h12⟩
/-- where picking works -/
def Pe (L : List Nat) (W : Nat → Nat) (z g a R cn : Nat) (M : mM) : Prop := (mOk M ∧ NF L W M ∧ SK L M z) ∧ (GK9 M g ∧ ∀ i, i ≤ 9 → Oc L M (g + i)) ∧ Rws L M a R cn ∧ ∀ i, i < cn → Rap z (mR M R i)
theorem Pe.we (h : Pe L W z g a R cn M) (hw : Ipk z w) : We L W z w g a R cn M := by
  obtain ⟨⟨h1, h2, h3⟩, h4, h5, h6⟩ := h
  exact ⟨⟨h1, h2, h3, h3.frl hw⟩, h4, h5, fun i hi => (h6 i hi).dw hw⟩
theorem Pe.nl (h : Pe L W z g a R cn M) (k : NL L W (Tpk z) (Ipk z) r z M M') (hS : SK L M' z) : Pe L W z g a R cn M' ∧ (∀ i, i ≤ 9 → mI M' (g + i) = mI M (g + i)) ∧ mR M' R = mR M R ∧ ∀ i, i < cn → nv M' (mR M R i + 1) = nv M (mR M R i + 1) ∧ nv M' (mR M R i + 3) = nv M (mR M R i + 3) := by
  obtain ⟨t1, t2, t3, t4, t5⟩ := (h.we (w := z + 18) (Or.inl rfl)).tb k (fun x e => (h.1.2.2.ipk x e).2)
  obtain ⟨⟨h1, h2, h3⟩, h4, h5, h6⟩ := h
  refine ⟨⟨⟨k.ok, k.nf, hS⟩, ⟨t1, t2⟩, t4, fun i hi => by rw [t5]; exact h6 i hi⟩, t3, t5, fun i hi => ?_⟩
  have hf := h5.2.2.2.2.2 i hi
  exact ⟨(k.num h2 hf.2.1 (h6 i hi).1).2.2, (k.num h2 hf.2.2 (h6 i hi).2.1).2.2⟩
/-- a worth that was weighed -/
def Bst (M0 : mM) (R cn S : Nat) (M : mM) (b : Nat) : Prop := (0 ≤ nv M (b + 3) ∧ nv M (b + 3) < 2 ^ (30 * (8 * S + 1))) ∧ nv M (b + 1) < 2 ^ (30 * (8 * S + 3)) ∧ (1 ≤ mI M b 2 ∧ mI M b 2 < 1000000000) ∧ (Rle M0 R cn → nv M (b + 1) ≤ mI M b 2 * nv M (b + 3) ∧ 0 < nv M (b + 3))
theorem Bst.cg (h : Bst M0 R cn S M b) (e1 : nv M' (b + 1) = nv M (b + 1)) (e3 : nv M' (b + 3) = nv M (b + 3)) (e2 : mI M' b = mI M b) : Bst M0 R cn S M' b := by
  unfold Bst
  rw [e1, e3, e2]
  exact h
/-- what picking leaves behind -/
def pkQ (L : List Nat) (W : Nat → Nat) (z R cn S fr to : Nat) (M : mM) (x : Int) (M' : mM) : Prop := NL L W (Tpk z) (Ipk z) True z M M' ∧ SK L M' z ∧ Bst M R cn S M' (mR M' z 9) ∧ ((fr : Int) ≤ x ∧ x < to)
/-- the two worths -/
theorem SK.bt (h : SK L M z) : Ipk z (mR M z 9) ∧ Ipk z (mR M z 10) ∧ mR M z 9 ≠ mR M z 10 := by
  obtain ⟨-, -, h3, -⟩ := h
  unfold Ipk
  omega
theorem wg_pk (hE : Pe L W z g a R cn M) (hw : Ipk z w) {mu : Nat} (hm : 1 ≤ mu ∧ mu < 1000000000) (q : wgQ L W z w R cn S mu M M') : NL L W (Tpk z) (Ipk z) True z M M' ∧ SK L M' z ∧ Bst M R cn S M' w := by
  obtain ⟨n, u, v, tt, le⟩ := q
  refine ⟨n.mono hE.1.2.1 (fun t ht => tw_pk hw ht) hE.1.2.2.tpk (fun x e => by rw [e]; exact hw) hE.1.2.2.ipk (fun e => e.elim), n.sk hE.1.2.1 hE.1.2.2, u, v, by rw [tt]; omega, fun l => by rw [tt]; exact le l⟩
theorem s_pkStep (hE : Pe L W z g a R cn M) (hrs : Rsm M R cn S) (hW : ∀ x, Tpk z x → B ≤ W x) (b1 : 16 * S + 10 ≤ B) (hB : B ≤ 16000) (hb : Bst M0 R cn S M (mR M z 9)) (hc : c < 4096) (hcn : cn ≤ 512) (hbc : bc ≤ 4096) (hcm : cmdG M g cn bc c) (hle : Rle M0 R cn → Rle M R cn) {v9 : Rat} (hv9 : BsV M0 R cn M (mR M z 9) v9) {Q : Int → mM → Prop}
    (hQ : ∀ x M', NL L W (Tpk z) (Ipk z) True z M M' → SK L M' z → (mR M' z = mR M z) → Bst M0 R cn S M' (mR M z 9) → Bst M0 R cn S M' (mR M z 10) → i32 x → BsV M0 R cn M' (mR M z 9) v9 → BsV M0 R cn M' (mR M z 10) (wr9 (rwv M R) (cmm M g c)) → (Rle M0 R cn → orR (wr9 (rwv M R) (cmm M g c)) v9 x) → Q x M') : mK M z = 9 ∧ Cv G y_Sc_weigh (d + 5) [vr z, vr g, vi c, vr a, vr (mR M z 10)] M (fun M8 => mOk M8 ∧ (mK M8 z = 9 ∧ Ci G y_Sc_order (d + 5) [vr z, vr (mR M8 z 10), vr (mR M8 z 9)] M8 (fun x13 M12 => i32 x13 ∧ mOk M12 ∧ Q x13 M12))) := by
  obtain ⟨i9, i10, ne⟩ := hE.1.2.2.bt
  have hF := hE.1.2.1
  have hS := hE.1.2.2
  obtain ⟨mu, hm, emu, k⟩ := f_weighX (G := G) (d := d) (B := B) (S := S) (hE.we i10) hrs (fun x hx => hW x (tw_pk i10 hx)) (by omega) hB hc hcn hbc hcm
  refine ⟨hS.1.1, k.mono (fun M8 qv => ?_)⟩
  obtain ⟨q, qv⟩ := qv
  have bv8 : BsV M R cn M8 (mR M z 10) (wr9 (rwv M R) (cmm M g c)) := by
    have := wv_bs qv (show (0 : Int) < ((mu : Nat) : Int) by omega) q.2.2.2.1 (fun l => (q.2.2.2.2 l).2)
    unfold wr9
    rw [emu]
    exact this
  have rz : mR M8 z = mR M z := (q.1.2.2.1.2 z hS.1.2).2.2.2.1 (fun u => u.elim (fun u => (hF.nz hS.1.1 (hS.tpk z (tw_pk i10 u))).1 rfl) (fun u => u.2))
  have q0 := q
  obtain ⟨n1, sk8, bt8⟩ := wg_pk hE i10 hm q
  have bt8' : Bst M0 R cn S M8 (mR M z 10) := ⟨bt8.1, bt8.2.1, bt8.2.2.1, fun l => bt8.2.2.2 (hle l)⟩
  have F8 := n1.nf
  have f9 := hS.frl i9
  have nt : ¬ Twg z (mR M z 10) (mR M z 9 + 1) ∧ ¬ Twg z (mR M z 10) (mR M z 9 + 3) := by
    rcases hS.2.2.1 with ⟨e1, e2⟩ | ⟨e1, e2⟩ <;> rw [e1, e2] <;> unfold Twg T4 <;> omega
  have bb8 : Bst M0 R cn S M8 (mR M z 9) := hb.cg (q0.1.num hF f9.2.1 nt.1).2.2 (q0.1.num hF f9.2.2 nt.2).2.2 ((q0.1.frp hF f9.1).2 ne)
  have bw8 : BsV M0 R cn M8 (mR M z 9) v9 := hv9.cg (q0.1.num hF f9.2.1 nt.1).2.2 (q0.1.num hF f9.2.2 nt.2).2.2 ((q0.1.frp hF f9.1).2 ne)
  rw [rz]
  have f9' := sk8.frl i9
  have f10' := sk8.frl i10
  have os : ∀ {b : Nat}, FrL L M8 b → Bst M0 R cn S M8 b → Osz M8 b (8 * S + 3) := fun hb hB => ⟨F8.szv hb.2.1 hB.2.1, F8.szv hb.2.2 (Int.lt_of_lt_of_le hB.1.2 (p30m (by omega))), hB.2.2.1.1, by have := hB.2.2.1.2; omega⟩
  have ot : ∀ {b : Nat}, Ipk z b → ¬ Tor z (b + 1) ∧ ¬ Tor z (b + 3) := fun hb => by
    unfold Tor
    rcases hb with e | e <;> subst e <;> omega
  refine ⟨n1.ok, sk8.1.1, (f_Sc_orderX (d := d) (s := 8 * S + 3) ⟨n1.ok, F8, sk8, f10', f9'⟩ (os f10' bt8') (os f9' bb8) (ot i10) (ot i9) (by have := hW _ (Or.inr (Or.inl (Or.inl rfl))); omega) (by have := hW _ (Or.inr (Or.inl (Or.inr rfl))); omega)).mono (fun x M12 k2 => ?_)⟩
  obtain ⟨n2, xx, xo⟩ := k2
  have xi : i32 x := by rcases xx with e | e | e <;> rw [e] <;> exact ⟨by decide, by decide⟩
  have n2' : NL L W (Tpk z) (Ipk z) True z M8 M12 := n2.mono F8 (fun t ht => Or.inr (Or.inl ht)) hS.tpk (fun _ e => e.elim) sk8.ipk (fun e => e.elim)
  have sk12 := n2.sk F8 sk8
  have rz2 : mR M12 z = mR M8 z := (n2.2.2.1.2 z sk8.1.2).2.2.2.1 (fun u => u.elim (fun u => (F8.nz sk8.1.1 (hS.tpk z (Or.inr (Or.inl u)))).1 rfl) (fun u => u.2))
  refine ⟨xi, n2.ok, hQ x M12 (n1.trans n2') sk12 (by rw [rz2, rz]) ?_ ?_ xi ?_ ?_ (fun l => ?_)⟩
  · exact bb8.cg (n2.num F8 f9'.2.1 (ot i9).1).2.2 (n2.num F8 f9'.2.2 (ot i9).2).2.2 ((n2.frp F8 f9'.1).2 (fun e => e))
  · exact bt8'.cg (n2.num F8 f10'.2.1 (ot i10).1).2.2 (n2.num F8 f10'.2.2 (ot i10).2).2.2 ((n2.frp F8 f10'.1).2 (fun e => e))
  · exact bw8.cg (n2.num F8 f9'.2.1 (ot i9).1).2.2 (n2.num F8 f9'.2.2 (ot i9).2).2.2 ((n2.frp F8 f9'.1).2 (fun e => e))
  · exact BsV.cg (fun l => bv8 (hle l)) (n2.num F8 f10'.2.1 (ot i10).1).2.2 (n2.num F8 f10'.2.2 (ot i10).2).2.2 ((n2.frp F8 f10'.1).2 (fun e => e))
  · rw [← bv8 (hle l), ← bw8 l]
    exact xo (bt8'.2.2.2 l).2 (bb8.2.2.2 l).2
end NBA
end
section
/-! The Scales: picking, the whole. -/
section NBB
variable {G : mG} {d b c z n m w S x y B u g a R cn bc f s i fr to : Nat} {M M0 M' M1 M2 M3 : mM} {L : List Nat} {W : Nat → Nat} {T T' I I' : Nat → Prop} {r : Prop} {sh t : Int}
theorem cmdG.same (h : cmdG M g cn bc c) (e : ∀ i, i ≤ 9 → mI M' (g + i) = mI M (g + i)) : cmdG M' g cn bc c := h.cg ⟨by rw [e 7 (by decide)], by rw [e 7 (by decide)]⟩ (by rw [e 6 (by decide)]) (by rw [e 5 (by decide)]) (fun i _ => ⟨by rw [e 8 (by decide)], by rw [e 9 (by decide)]⟩) (Nat.le_refl _) (Nat.le_refl _)
/-- what the best of the commands fr to fr + i is worth -/
noncomputable def pkv (l4 : Int) (M : mM) (R g fr i : Nat) : Rat := bst9 (l4 ≠ 0) (fun j => wr9 (rwv M R) (cmm M g (fr + j))) i
/-- the two worths change places -/
theorem nl_swap (hO : mOk M) (hF : NF L W M) (hS : SK L M z) (e1 : M1 = mUR M z 9 (mR M z 10)) (e2 : M2 = mUR M1 z 10 (mR M z 9)) : NL L W (Tpk z) (Ipk z) True z M M2 ∧ SK L M2 z ∧ (∀ a, a ∈ L → nv M2 a = nv M a) ∧ mI M2 = mI M ∧ (mR M2 z 9 = mR M z 10 ∧ mR M2 z 10 = mR M z 9) := by
  have rr : ∀ a j, mR M2 a j = if a = z ∧ j = 10 then mR M z 9 else if a = z ∧ j = 9 then mR M z 10 else mR M a j := fun a j => by rw [e2, mR_UR, e1, mR_UR]
  have ro : ∀ a, a ≠ z → mR M2 a = mR M a := fun a ha => by
    funext j
    rw [rr, if_neg (fun u => ha u.1), if_neg (fun u => ha u.1)]
  have r9 : mR M2 z 9 = mR M z 10 := by rw [rr, if_neg (fun u => absurd u.2 (by decide)), if_pos ⟨rfl, rfl⟩]
  have r10 : mR M2 z 10 = mR M z 9 := by rw [rr, if_pos ⟨rfl, rfl⟩]
  have ri : ∀ j, j ≠ 9 → j ≠ 10 → mR M2 z j = mR M z j := fun j h9 h10 => by rw [rr, if_neg (fun u => h10 u.2), if_neg (fun u => h9 u.2)]
  have kk : mK M2 = mK M := by rw [e2, e1]; rfl
  have nn : mN M2 = mN M := by rw [e2, e1]; rfl
  have ii : mI M2 = mI M := by rw [e2, e1]; rfl
  have ll : mL M2 = mL M := by rw [e2, e1]; rfl
  have zz : mZ M2 = mZ M := by rw [e2, e1]; rfl
  have ss : mS M2 = mS M := by rw [e2, e1]; rfl
  have o2 : mOk M2 := by rw [e2, e1]; exact mOk_UR (mOk_UR hO)
  have nz : ∀ a, a ∈ L → a ≠ z := fun a ha => (hF.nz hS.1.1 ha).1
  have nt' : ∀ a, a ∈ L → Nt M2 a (mR M a 0) (cp M a) (sz M a) := fun a ha => by
    have t := hF.nt ha
    unfold Nt Nl lim at t ⊢
    rw [kk, nn, ro a (nz a ha), ii, zz]
    exact t
  have cc : ∀ a, a ∈ L → cp M2 a = cp M a := fun a ha => (nt' a ha).cp
  refine ⟨⟨⟨o2, hF.1, fun a ha => ⟨(nt' a ha).nn, by rw [cc a ha]; exact (hF.2.1 a ha).2.1, (hF.2.1 a ha).2.2⟩, fun a b ha hb u => hF.2.2 a b ha hb (by rw [← ro a (nz a ha), ← ro b (nz b hb)]; exact u)⟩, ⟨hS.tpk, hS.ipk, hS.z9⟩, ⟨⟨by rw [zz]; exact Nat.le_refl _, by rw [ss]; exact Nat.le_refl _⟩, fun x _ => ⟨by rw [kk], by rw [nn], fun _ => by rw [ll], fun u => ro x (fun e => u (Or.inr ⟨e, trivial⟩)), fun _ => by rw [ii]⟩⟩, fun t ht => Or.inl (by rw [ro t (nz t (hS.tpk t ht))]), ?_⟩, ?_, fun a ha => (nt' a ha).nv.trans (by rw [ii]; rfl), ii, r9, r10⟩
  · unfold RmN
    rw [psum_congr L (fun q hq => (cc q hq)), psum_congr (f := fun p => cp M2 p / 4) (g := fun p => cp M p / 4) L (fun q hq => by show cp M2 q / 4 = cp M q / 4; rw [cc q hq]), zz, ss]
    exact ⟨Nat.le_refl _, Nat.le_refl _⟩
  · obtain ⟨k1, k2, k3, k4, ⟨k5, k6⟩, k7, k8⟩ := id hS
    have n18 : z + 18 ≠ z := by omega
    have n23 : z + 23 ≠ z := by omega
    unfold SK FrP
    rw [kk, nn, zz, ri 0 (by decide) (by decide), ri 1 (by decide) (by decide), ri 2 (by decide) (by decide), ri 3 (by decide) (by decide), ri 4 (by decide) (by decide), ri 5 (by decide) (by decide), ri 6 (by decide) (by decide), ri 7 (by decide) (by decide), ri 8 (by decide) (by decide), r9, r10, ro _ n18, ro _ n23]
    exact ⟨k1, k2, k3.elim (fun u => Or.inr ⟨u.2, u.1⟩) (fun u => Or.inl ⟨u.2, u.1⟩), k4, ⟨k5, k6⟩, k7, k8⟩
theorem s_pk20 {l4 : Int} (h4 : i32 l4) (hE0 : Pe L W z g a R cn M0) (hrs0 : Rsm M0 R cn S) (hW : ∀ x, Tpk z x → B ≤ W x) (b1 : 16 * S + 10 ≤ B) (hB : B ≤ 16000) (hto : to ≤ 4096) (hcn : cn ≤ 512) (hbc : bc ≤ 4096) (hcm : ∀ c, fr ≤ c → c < to → cmdG M0 g cn bc c) : ∀ (t p c : Nat) (M : mM), to ≤ c + t → fr ≤ p → p < to → fr + 1 ≤ c → c ≤ to → NL L W (Tpk z) (Ipk z) True z M0 M → SK L M z → Bst M0 R cn S M (mR M z 9) → BsV M0 R cn M (mR M z 9) (pkv l4 M0 R g fr (c - 1 - fr)) → h_Sc_pick_20 G (d + 5) z g to l4 a p c M (fun x M' => pkQ L W z R cn S fr to M0 x M' ∧ BsV M0 R cn M' (mR M' z 9) (pkv l4 M0 R g fr (to - 1 - fr))) := by
  intro t
  induction t with
  | zero =>
    intro p c M h1 h2 h3 h5 h6 hN hS hb hv9
    have ec : c = to := by omega
    rw [ec] at hv9
    exact k_Sc_pick_20 hN.ok ⟨by omega, by omega⟩ h4 ⟨by omega, by omega⟩ ⟨by omega, by omega⟩ ⟨fun _ => ⟨⟨hN, hS, hb, by omega, by omega⟩, hv9⟩, fun u => absurd u (by omega)⟩
  | succ t ih =>
    intro p c M h1 h2 h3 h5 h6 hN hS hb hv9
    obtain ⟨hE, e9, eR, vals⟩ := hE0.nl hN hS
    refine k_Sc_pick_20 hN.ok ⟨by omega, by omega⟩ h4 ⟨by omega, by omega⟩ ⟨by omega, by omega⟩ ⟨fun u => ⟨⟨hN, hS, hb, by omega, by omega⟩, by
      have ec : c = to := by omega
      rw [ec] at hv9
      exact hv9⟩, fun u => ?_⟩
    have hrs : Rsm M R cn S := fun i hi => by
      rw [eR, (vals i hi).1, (vals i hi).2]
      exact hrs0 i hi
    have hle : Rle M0 R cn → Rle M R cn := fun q i hi => by
      rw [eR, (vals i hi).1, (vals i hi).2]
      exact q i hi
    rw [show ((c : Int) + 1) = ((c + 1 : Nat) : Int) by omega]
    have ew : wr9 (rwv M R) (cmm M g c) = wr9 (rwv M0 R) (cmm M0 g c) := by
      rw [cmm_same e9]
      exact wr_cg (fun b hb => by
        have lt := cmm_lt (hcm c (by omega) (by omega)) b hb
        exact rwv_cg eR (vals _ lt).1 (vals _ lt).2)
    refine s_pkStep (d := d) hE hrs hW b1 hB hb (by omega) hcn hbc ((hcm c (by omega) (by omega)).same e9) hle hv9 (fun x M12 n1 sk1 rz bb bt xi bv bw ox => ?_)
    rw [ew] at bw ox
    have e0 : pkv l4 M0 R g fr (c + 1 - 1 - fr) = @ite Rat ((l4 ≠ 0 ∧ pkv l4 M0 R g fr (c - 1 - fr) < wr9 (rwv M0 R) (cmm M0 g c)) ∨ (¬ l4 ≠ 0 ∧ wr9 (rwv M0 R) (cmm M0 g c) < pkv l4 M0 R g fr (c - 1 - fr))) (Classical.propDecidable _) (wr9 (rwv M0 R) (cmm M0 g c)) (pkv l4 M0 R g fr (c - 1 - fr)) := by
      have e1 : c + 1 - 1 - fr = c - 1 - fr + 1 := by omega
      have e2 : fr + (c - 1 - fr + 1) = c := by omega
      rw [e1]
      show @ite Rat ((l4 ≠ 0 ∧ pkv l4 M0 R g fr (c - 1 - fr) < wr9 (rwv M0 R) (cmm M0 g (fr + (c - 1 - fr + 1)))) ∨ (¬ l4 ≠ 0 ∧ wr9 (rwv M0 R) (cmm M0 g (fr + (c - 1 - fr + 1))) < pkv l4 M0 R g fr (c - 1 - fr))) (Classical.propDecidable _) (wr9 (rwv M0 R) (cmm M0 g (fr + (c - 1 - fr + 1)))) (pkv l4 M0 R g fr (c - 1 - fr)) = _
      rw [e2]
    have kv : ((l4 = 0 ∧ 0 ≤ x) ∨ (l4 ≠ 0 ∧ x ≤ 0)) → BsV M0 R cn M12 (mR M z 9) (pkv l4 M0 R g fr (c + 1 - 1 - fr)) := fun hx l => by
      rw [e0, if_neg, bv l]
      intro y
      have o := ox l
      rcases y with ⟨y1, y2⟩ | ⟨y1, y2⟩
      · rcases o with ⟨o1, o2⟩ | ⟨o1, o2⟩ | ⟨o1, o2⟩
        · rw [o2] at y2
          exact Rat.lt_irrefl y2
        · omega
        · exact rat3.1 y2 o2
      · rcases o with ⟨o1, o2⟩ | ⟨o1, o2⟩ | ⟨o1, o2⟩
        · rw [o2] at y2
          exact Rat.lt_irrefl y2
        · exact rat3.1 y2 o2
        · omega
    have tv : ((l4 = 0 ∧ ¬ 0 ≤ x) ∨ (l4 ≠ 0 ∧ ¬ x ≤ 0)) → BsV M0 R cn M12 (mR M z 10) (pkv l4 M0 R g fr (c + 1 - 1 - fr)) := fun hx l => by
      rw [e0, if_pos, bw l]
      have o := ox l
      rcases hx with ⟨y1, y2⟩ | ⟨y1, y2⟩
      · refine Or.inr ⟨fun w => w y1, ?_⟩
        rcases o with ⟨o1, o2⟩ | ⟨o1, o2⟩ | ⟨o1, o2⟩
        · omega
        · omega
        · exact o2
      · refine Or.inl ⟨y1, ?_⟩
        rcases o with ⟨o1, o2⟩ | ⟨o1, o2⟩ | ⟨o1, o2⟩
        · omega
        · exact o2
        · omega
    have N1 := hN.trans n1
    have keep : ((l4 = 0 ∧ 0 ≤ x) ∨ (l4 ≠ 0 ∧ x ≤ 0)) → h_Sc_pick_20 G (d + 5) z g to l4 a p ((c + 1 : Nat) : Int) M12 (fun x M' => pkQ L W z R cn S fr to M0 x M' ∧ BsV M0 R cn M' (mR M' z 9) (pkv l4 M0 R g fr (to - 1 - fr))) := fun hx => ih p (c + 1) M12 (by omega) h2 h3 (by omega) (by omega) N1 sk1 (by rw [rz]; exact bb) (by rw [rz]; exact kv hx)
    have take : ((l4 = 0 ∧ ¬ 0 ≤ x) ∨ (l4 ≠ 0 ∧ ¬ x ≤ 0)) → ∀ M29, M29 = mUR M12 z 9 (mR M12 z 10) → ∀ M31, M31 = mUR M29 z 10 (mR M12 z 9) → h_Sc_pick_20 G (d + 5) z g to l4 a c ((c + 1 : Nat) : Int) M31 (fun x M' => pkQ L W z R cn S fr to M0 x M' ∧ BsV M0 R cn M' (mR M' z 9) (pkv l4 M0 R g fr (to - 1 - fr))) := fun hx M29 e29 M31 e31 => by
      obtain ⟨n2, sk2, vv, ii, r9, r10⟩ := nl_swap N1.ok N1.nf sk1 e29 e31
      obtain ⟨i9, i10, -⟩ := sk1.bt
      have f10 := sk1.frl i10
      refine ih c (c + 1) M31 (by omega) (by omega) (by omega) (by omega) (by omega) (N1.trans n2) sk2 ?_ ?_
      rotate_left
      · rw [r9]
        exact (show BsV M0 R cn M12 (mR M12 z 10) (pkv l4 M0 R g fr (c + 1 - 1 - fr)) by rw [rz]; exact tv hx).cg (vv _ f10.2.1) (vv _ f10.2.2) (by rw [ii])
      rw [r9]
      exact (show Bst M0 R cn S M12 (mR M12 z 10) by rw [rz]; exact bt).cg (vv _ f10.2.1) (vv _ f10.2.2) (by rw [ii])
    exact ⟨fun y => ⟨fun y' => keep (Or.inl ⟨y, y'⟩), fun y' => ⟨sk1.1.1, take (Or.inl ⟨y, y'⟩)⟩⟩, fun y => ⟨fun y' => keep (Or.inr ⟨y, y'⟩), fun y' => ⟨sk1.1.1, take (Or.inr ⟨y, y'⟩)⟩⟩⟩
/-- the best command is picked -/
theorem f_pickX {l4 : Int} (h4 : i32 l4) (hE : Pe L W z g a R cn M) (hrs : Rsm M R cn S) (hW : ∀ x, Tpk z x → B ≤ W x) (b1 : 16 * S + 10 ≤ B) (hB : B ≤ 16000) (hft : fr < to) (hto : to ≤ 4096) (hcn : cn ≤ 512) (hbc : bc ≤ 4096) (hcm : ∀ c, fr ≤ c → c < to → cmdG M g cn bc c) : Ci G y_Sc_pick (d + 6) [vr z, vr g, vi fr, vi to, vi l4, vr a] M (fun x M' => pkQ L W z R cn S fr to M x M' ∧ BsV M R cn M' (mR M' z 9) (pkv l4 M R g fr (to - 1 - fr))) := by
  obtain ⟨i9, i10, ne⟩ := hE.1.2.2.bt
  obtain ⟨mu, hm, emu, k⟩ := f_weighX (G := G) (d := d) (B := B) (S := S) (hE.we i9) hrs (fun x hx => hW x (tw_pk i9 hx)) (by omega) hB (show fr < 4096 by omega) hcn hbc (hcm fr (Nat.le_refl _) hft)
  refine k_Sc_pick hE.1.1 ⟨by omega, by omega⟩ ⟨by omega, by omega⟩ h4 ⟨hE.1.2.2.1.1, k.mono (fun M2 qv => ?_)⟩
  obtain ⟨q, qv⟩ := qv
  have bv : BsV M R cn M2 (mR M z 9) (wr9 (rwv M R) (cmm M g fr)) := by
    have := wv_bs qv (show (0 : Int) < ((mu : Nat) : Int) by omega) q.2.2.2.1 (fun l => (q.2.2.2.2 l).2)
    unfold wr9
    rw [emu]
    exact this
  have rz : mR M2 z = mR M z := (q.1.2.2.1.2 z hE.1.2.2.1.2).2.2.2.1 (fun u => u.elim (fun u => (hE.1.2.1.nz hE.1.2.2.1.1 (hE.1.2.2.tpk z (tw_pk i9 u))).1 rfl) (fun u => u.2))
  obtain ⟨n1, sk, bt⟩ := wg_pk hE i9 hm q
  rw [show ((fr : Int) + 1) = ((fr + 1 : Nat) : Int) by omega]
  exact ⟨n1.ok, s_pk20 (d := d) h4 hE hrs hW b1 hB hto hcn hbc hcm to fr (fr + 1) M2 (by omega) (Nat.le_refl _) hft (by omega) (by omega) n1 sk (by rw [rz]; exact bt) (by
    rw [rz, show fr + 1 - 1 - fr = 0 by omega]
    exact bv)⟩
theorem f_pick {l4 : Int} (h4 : i32 l4) (hE : Pe L W z g a R cn M) (hrs : Rsm M R cn S) (hW : ∀ x, Tpk z x → B ≤ W x) (b1 : 16 * S + 10 ≤ B) (hB : B ≤ 16000) (hft : fr < to) (hto : to ≤ 4096) (hcn : cn ≤ 512) (hbc : bc ≤ 4096) (hcm : ∀ c, fr ≤ c → c < to → cmdG M g cn bc c) : Ci G y_Sc_pick (d + 6) [vr z, vr g, vi fr, vi to, vi l4, vr a] M (pkQ L W z R cn S fr to M) := (f_pickX h4 hE hrs hW b1 hB hft hto hcn hbc hcm).mono (fun x M' k => k.1)
/-- the kept worth against a fraction -/
theorem f_orderOfPicked (hO : mOk M) (hF : NF L W M) (hS : SK L M z) (hf : FrL L M f) (o1 : Osz M (mR M z 9) s) (o2 : Osz M f s) (nf : ¬ Tor z (f + 1) ∧ ¬ Tor z (f + 3)) (w9 : 2 * s + 1 ≤ W (z + 9)) (w11 : 2 * s + 1 ≤ W (z + 11)) : Ci G y_Sc_orderOfPicked (d + 6) [vr z, vr f] M (fun x M' => NL L W (Tor z) (fun _ => False) False z M M' ∧ (x = -1 ∨ x = 0 ∨ x = 1)) := by
  obtain ⟨i9, i10, ne⟩ := hS.bt
  have ot : ¬ Tor z (mR M z 9 + 1) ∧ ¬ Tor z (mR M z 9 + 3) := by
    unfold Tor
    rcases i9 with e | e <;> rw [e] <;> omega
  refine k_Sc_orderOfPicked hO ⟨hS.1.1, (f_Sc_order (d := d) ⟨hO, hF, hS, hS.frl i9, hf⟩ o1 o2 ot nf w9 w11).mono (fun x M' k => ?_)⟩
  exact ⟨by rcases k.2 with e | e | e <;> rw [e] <;> exact ⟨by decide, by decide⟩, k.1.ok, k⟩
end NBB
end
section
/-! New fractions. -/
section NBC
variable {G : mG} {d a z n m w S B u g R cn f F s i : Nat} {M M0 M' M1 M2 M3 : mM} {L L' : List Nat} {W : Nat → Nat}
theorem FA.ui {S R : Nat → Prop} {j : Nat} {x : Int} (ha : S a) (e : M' = mUI M a j x) : FA S R M M' := (show FI S M M' by rw [e]; exact FI.ui ha).fa
theorem s_Na_init (hO : mOk M) (h0 : 0 < a) (hk : mK M a = 10) (hz : a < mZ M) : Cv G y_Na_init (d + 1) [vr a] M (fun M' => mOk M' ∧ FA (fun x => x = a) (fun x => x = a) M M' ∧ (mZ M' = mZ M + 1 ∧ mS M' = mS M + 4) ∧ Nt M' a (mZ M) 4 0) := by
  refine k_Na_init hO ⟨h0, fun M2 e2 => ?_⟩
  have f2 : FA (fun x => x = a) (fun x => x = a) M M2 := FA.new e2
  refine ⟨by rw [(f2.2 a hz).1]; exact hk, fun M5 e5 M7 e7 => ?_⟩
  have f5 := f2.trans (FA.ur rfl e5)
  have f7 := f5.trans (FA.ui rfl e7)
  have z7 : mZ M7 = mZ M + 1 := by rw [e7, e5, e2]; rfl
  refine ⟨by rw [e7]; exact mOk_UI (by rw [e5]; exact mOk_UR (by rw [e2]; exact mOk_New hO)) ⟨by decide, by decide⟩, f7, ⟨z7, by rw [e7, e5, e2]; rfl⟩, ⟨by rw [(f7.2 a hz).1]; exact hk, ?_, ?_, ?_, ⟨by decide, by decide⟩, by omega, by omega, by omega⟩, by rw [mI_ui a 1 e7, if_pos ⟨rfl, rfl⟩]; rfl, by decide, fun j hj => absurd hj (by omega), fun u => absurd u (by omega)⟩
  · rw [e7]; show mR M5 a 0 = _; rw [e5, mR_UR, if_pos ⟨rfl, rfl⟩]
  · rw [e7]; show mK M5 (mZ M) = _; rw [e5]; show mK M2 (mZ M) = _; rw [e2, mK_New, if_pos rfl]
  · rw [e7]; show mN M5 (mZ M) = _; rw [e5]; show mN M2 (mZ M) = _; rw [e2, mN_New, if_pos rfl]
theorem s_Fr_init (hO : mOk M) (hk : mK M F = 11) (hz : mZ M = F + 1) (h0 : 0 < F) : Cv G y_Fr_init (d + 2) [vr F] M (fun M' => mOk M' ∧ FA (fun x => x = F) (fun x => x = F) M M' ∧ (mZ M' = F + 5 ∧ mS M' = mS M + 12) ∧ (mR M' F 0 = F + 1 ∧ mR M' F 1 = F + 3) ∧ Nt M' (F + 1) (F + 2) 4 0 ∧ Nt M' (F + 3) (F + 4) 4 0 ∧ mI M' F 2 = 1) := by
  refine k_Fr_init hO ⟨h0, fun M2 e2 => ?_⟩
  have f2 : FA (fun x => x = F) (fun x => x = F) M M2 := FA.new e2
  have z2 : mZ M2 = F + 2 := by rw [e2, mZ_New]; omega
  have s2 : mS M2 = mS M + 2 := by rw [e2, mS_New]
  have k2 : mK M2 (F + 1) = 10 := by rw [e2, mK_New, if_pos (by omega)]
  have o2 : mOk M2 := by rw [e2]; exact mOk_New hO
  rw [hz]
  refine (s_Na_init (d := d) (a := F + 1) o2 (by omega) k2 (by omega)).mono (fun M4 q => ?_)
  obtain ⟨o4, f4, ⟨z4, s4⟩, t4⟩ := q
  rw [z2] at t4 z4
  have F4 : FA (fun x => x = F) (fun x => x = F) M M4 := f2.trans2 f4 (fun x hx e => by have e' : x = F + 1 := e; omega) (fun x hx e => by have e' : x = F + 1 := e; omega)
  refine ⟨o4, by rw [(F4.2 F (by omega)).1]; exact hk, fun M8 e8 => ?_⟩
  have F8 : FA (fun x => x = F) (fun x => x = F) M M8 := F4.trans (FA.ur rfl e8)
  have z8 : mZ M8 = F + 3 := by rw [e8]; exact z4
  have o8 : mOk M8 := by rw [e8]; exact mOk_UR o4
  have s8 : mS M8 = mS M + 6 := by rw [e8, mS_UR, s4, s2]
  have t8 : Nt M8 (F + 1) (F + 2) 4 0 := t4.fa (S := fun _ => False) (R := fun x => x = F) (FA.ur rfl e8) (fun e => e) (fun e => e) (fun e => by have e' : F + 1 = F := e; omega)
  have r8 : mR M8 F 0 = F + 1 := by rw [e8, mR_UR, if_pos ⟨rfl, rfl⟩]
  rw [z8]
  intro M10 e10
  have g10 : FA (fun _ => False) (fun _ => False) M8 M10 := FA.new e10
  have z10 : mZ M10 = F + 4 := by rw [e10, mZ_New]; omega
  have k10 : mK M10 (F + 3) = 10 := by rw [e10, mK_New, if_pos (by omega)]
  have o10 : mOk M10 := by rw [e10]; exact mOk_New o8
  have t10 := t8.fa g10 (fun e => e) (fun e => e) (fun e => e)
  refine (s_Na_init (d := d) (a := F + 3) o10 (by omega) k10 (by omega)).mono (fun M12 q => ?_)
  obtain ⟨o12, f12, ⟨z12, s12⟩, t12⟩ := q
  rw [z10] at t12 z12
  have t12' := t10.fa f12 (fun e => by have e' : F + 1 = F + 3 := e; omega) (fun e => by have e' : F + 2 = F + 3 := e; omega) (fun e => by have e' : F + 1 = F + 3 := e; omega)
  have G12 : FA (fun x => x = F) (fun x => x = F) M8 M12 := (g10.mono (fun _ _ e => e.elim) (fun _ _ e => e.elim)).trans2 f12 (fun x hx e => by have e' : x = F + 3 := e; omega) (fun x hx e => by have e' : x = F + 3 := e; omega)
  have r12 : mR M12 F 0 = F + 1 := by
    rw [(f12.2 F (by omega)).2.2.2.1 (fun e => by have e' : F = F + 3 := e; omega), (g10.2 F (by omega)).2.2.2.1 (fun e => e)]
    exact r8
  refine ⟨o12, by rw [(G12.2 F (by omega)).1, (F8.2 F (by omega)).1]; exact hk, fun M16 e16 M18 e18 => ?_⟩
  have h16 : FA (fun x => x = F) (fun x => x = F) M12 M16 := FA.ur rfl e16
  have h18 : FA (fun x => x = F) (fun x => x = F) M16 M18 := FA.ui rfl e18
  have nF : ∀ {x : Nat}, x ≠ F → ¬ (fun x => x = F) x := fun h e => h e
  have u : ∀ {b X C s : Nat}, b ≠ F → X ≠ F → Nt M12 b X C s → Nt M18 b X C s := fun hb hX t => (t.fa h16 hb hX hb).fa h18 hb hX hb
  refine ⟨by rw [e18]; exact mOk_UI (by rw [e16]; exact mOk_UR o12) ⟨by decide, by decide⟩, ((F8.trans G12).trans h16).trans h18, ⟨by rw [e18, e16]; exact z12, ?_⟩, ⟨?_, ?_⟩, u (by omega) (by omega) t12', u (by omega) (by omega) t12, by rw [mI_ui F 2 e18, if_pos ⟨rfl, rfl⟩]⟩
  · have s10 : mS M10 = mS M8 + 2 := by rw [e10, mS_New]
    have s18 : mS M18 = mS M12 := by rw [e18, e16]; rfl
    omega
  · rw [e18]; show mR M16 F 0 = _; rw [e16, mR_UR, if_neg (fun u => absurd u.2 (by decide))]; exact r12
  · rw [e18]; show mR M16 F 1 = _; rw [e16, mR_UR, if_pos ⟨rfl, rfl⟩]
/-- the family grows by a fraction -/
theorem nf_grow {S R : Nat → Prop} (hF : NF L W M) (F1 : FA S R M M') (hS : ∀ x, x < mZ M → ¬ S x) (hR : ∀ x, x < mZ M → ¬ R x) (hf : mZ M ≤ F) (t1 : Nt M' (F + 1) (F + 2) 4 0) (t3 : Nt M' (F + 3) (F + 4) 4 0) (w1 : 2 ≤ W (F + 1) ∧ W (F + 1) ≤ 20000) (w3 : 2 ≤ W (F + 3) ∧ W (F + 3) ≤ 20000) : NF ((F + 1) :: (F + 3) :: L) W M' := by
  have lt : ∀ a, a ∈ L → a < F := fun a ha => Nat.lt_of_lt_of_le (hF.lt ha).1 hf
  have old : ∀ a, a ∈ L → Nt M' a (mR M a 0) (cp M a) (sz M a) := fun a ha => (hF.nt ha).fa F1 (hS _ (hF.lt ha).1) (hS _ (hF.lt ha).2) (hR _ (hF.lt ha).1)
  have r1 : mR M' (F + 1) 0 = F + 2 := t1.1.2.1
  have r3 : mR M' (F + 3) 0 = F + 4 := t3.1.2.1
  have ro : ∀ a, a ∈ L → mR M' a 0 = mR M a 0 ∧ mR M a 0 < F := fun a ha => ⟨(old a ha).1.2.1, Nat.lt_of_lt_of_le (hF.lt ha).2 hf⟩
  refine ⟨?_, fun a ha => ?_, fun a b ha hb u => ?_⟩
  · refine List.nodup_cons.2 ⟨fun h => ?_, List.nodup_cons.2 ⟨fun h => ?_, hF.1⟩⟩
    · rcases List.mem_cons.1 h with e | e
      · omega
      · have := lt _ e; omega
    · have := lt _ h; omega
  · rcases List.mem_cons.1 ha with e | e
    · rw [e]; exact ⟨t1.nn, by rw [t1.cp]; omega, w1⟩
    · rcases List.mem_cons.1 e with e | e
      · rw [e]; exact ⟨t3.nn, by rw [t3.cp]; omega, w3⟩
      · exact ⟨(old a e).nn, by rw [(old a e).cp]; exact (hF.2.1 a e).2.1, (hF.2.1 a e).2.2⟩
  · have cs : ∀ {a : Nat}, a ∈ (F + 1) :: (F + 3) :: L → a = F + 1 ∨ a = F + 3 ∨ a ∈ L := fun h => by
      rcases List.mem_cons.1 h with e | e
      · exact Or.inl e
      · rcases List.mem_cons.1 e with e | e
        · exact Or.inr (Or.inl e)
        · exact Or.inr (Or.inr e)
    rcases cs ha with e1 | e1 | e1 <;> rcases cs hb with e2 | e2 | e2
    · rw [e1, e2]
    · rw [e1, e2, r1, r3] at u; omega
    · rw [e1, r1, (ro b e2).1] at u; have := (ro b e2).2; omega
    · rw [e1, e2, r1, r3] at u; omega
    · rw [e1, e2]
    · rw [e1, r3, (ro b e2).1] at u; have := (ro b e2).2; omega
    · rw [e2, r1, (ro a e1).1] at u; have := (ro a e1).2; omega
    · rw [e2, r3, (ro a e1).1] at u; have := (ro a e1).2; omega
    · rw [(ro a e1).1, (ro b e2).1] at u
      exact hF.2.2 a b e1 e2 u
end NBC
end
section
/-! Tables of fractions grow. -/
section NBD
variable {G : mG} {d a z n m w S B u g R R' cn f F s i k K : Nat} {M M0 M' M1 M2 M3 : mM} {L L' L1 : List Nat} {W : Nat → Nat}
/-- a table of k fractions, at rest -/
def RwT (L : List Nat) (M : mM) (a R k : Nat) : Prop := mK M a = 13 ∧ mR M a 0 = R ∧ mK M R = 35 ∧ mN M R = k ∧ (Oc L M a ∧ Oc L M R) ∧ ∀ i, i < k → FrL L M (mR M R i)
theorem nf_ur {x j v : Nat} (hF : NF L W M) (hx : x ∉ L) (e : M' = mUR M x j v) : NF L W M' := by
  have ro : ∀ a, a ∈ L → mR M' a 0 = mR M a 0 := fun a ha => by rw [e, mR_UR, if_neg (fun u => hx (by rw [← u.1]; exact ha))]
  have nt' : ∀ a, a ∈ L → Nt M' a (mR M a 0) (cp M a) (sz M a) := fun a ha => (hF.nt ha).fa (S := fun _ => False) (R := fun y => y = x) (FA.ur rfl e) (fun u => u) (fun u => u) (fun u => hx (by rw [← u]; exact ha))
  exact ⟨hF.1, fun a ha => ⟨(nt' a ha).nn, by rw [(nt' a ha).cp]; exact (hF.2.1 a ha).2.1, (hF.2.1 a ha).2.2⟩, fun a b ha hb u => hF.2.2 a b ha hb (by rw [← ro a ha, ← ro b hb]; exact u)⟩
theorem FrP.fa {S R : Nat → Prop} (h : FrP M f) (F : FA S R M M') (hf : ¬ R f) : FrP M' f := by
  obtain ⟨h1, h2, h3⟩ := h
  exact ⟨by rw [(F.2 f h3).1]; exact h1, by rw [(F.2 f h3).2.2.2.1 hf]; exact h2, Nat.lt_of_lt_of_le h3 F.1.1⟩
/-- the new table on its way: e new fractions -/
def RvI (L : List Nat) (W : Nat → Nat) (M : mM) (R k K i : Nat) (L1 : List Nat) (M1 : mM) : Prop := (mOk M1 ∧ NF L1 W M1) ∧ FA (fun _ => False) (fun _ => False) M M1 ∧ (mK M1 (mZ M) = 35 ∧ mN M1 (mZ M) = K) ∧ (mZ M1 = mZ M + 1 + 5 * (i - k) ∧ mS M1 = mS M + K + 15 * (i - k)) ∧ (∀ j, j < i → mR M1 (mZ M) j = if j < k then mR M R j else mZ M + 1 + 5 * (j - k)) ∧ (∀ j, k ≤ j → j < i → FrL L1 M1 (mZ M + 1 + 5 * (j - k)) ∧ mI M1 (mZ M + 1 + 5 * (j - k)) 2 = 1) ∧ (Oc L1 M1 (mZ M) ∧ (∀ x, x ∈ L → x ∈ L1) ∧ (∀ x, x ∈ L1 → x ∈ L ∨ (mZ M < x ∧ mZ M < mR M1 x 0))) ∧ (L1.length = L.length + 2 * (i - k) ∧ psum (cp M1) L1 = psum (cp M) L + 8 * (i - k) ∧ psum (fun p => cp M1 p / 4) L1 = psum (fun p => cp M p / 4) L + 2 * (i - k))
/-- how a table grew -/
def rvG (L : List Nat) (M : mM) (R k : Nat) (L' : List Nat) (M' : mM) (R' k' : Nat) : Prop := R' = mZ M ∧ (k < k' ∧ k' ≤ 512 ∧ (2 * k ≤ k' ∨ k' = 512)) ∧ L'.length = L.length + 2 * (k' - k) ∧ (mZ M' = mZ M + 1 + 5 * (k' - k) ∧ mS M' = mS M + k' + 15 * (k' - k)) ∧ psum (cp M') L' = psum (cp M) L + 8 * (k' - k) ∧ psum (fun p => cp M' p / 4) L' = psum (fun p => cp M p / 4) L + 2 * (k' - k)
def rvQ (L : List Nat) (W : Nat → Nat) (a : Nat) (M : mM) (R k cnt : Nat) (M' : mM) : Prop := ∃ L' R' k', mOk M' ∧ NF L' W M' ∧ (∀ x, x ∈ L → x ∈ L') ∧ (∀ x, x ∈ L' → x ∈ L ∨ (mZ M < x ∧ mZ M < mR M' x 0)) ∧ RwT L' M' a R' k' ∧ (cnt ≤ k' ∧ k ≤ k') ∧ FA (fun _ => False) (fun x => x = a) M M' ∧ (∀ i, i ≠ 0 → mR M' a i = mR M a i) ∧ (∀ i, i < k → mR M' R' i = mR M R i) ∧ (∀ i, k ≤ i → i < k' → mR M' R' i = mZ M + 1 + 5 * (i - k) ∧ mI M' (mZ M + 1 + 5 * (i - k)) 2 = 1) ∧ ((M' = M ∧ L' = L ∧ R' = R ∧ k' = k) ∨ rvG L M R k L' M' R' k')
theorem s_rv_new (h : RvI L W M R k K i L1 M1) (hik : k ≤ i) (hiK : i < K) (hWn : ∀ x, mZ M < x → 2 ≤ W x ∧ W x ≤ 20000) (e33 : M2 = mNew M1 11 0 3) : Cv G y_Fr_init (d + 2) [vr (mZ M1)] M2 (fun M35 => mOk M35 ∧ (mK M35 (mZ M) = 35 ∧ ((0 : Int) ≤ i ∧ (i : Int) < (mN M35 (mZ M) : Int)) ∧ mK M35 (mZ M1) = 11 ∧ ∀ M41, M41 = mUR M35 (mZ M) i (mZ M1) → RvI L W M R k K (i + 1) ((mZ M1 + 1) :: (mZ M1 + 3) :: L1) M41)) := by
  obtain ⟨⟨o1, F1⟩, f1, ⟨kz, nz⟩, ⟨z1, s1⟩, rj, fj, ⟨oc, l1, l2⟩, ⟨g1, g2, g3⟩⟩ := h
  have f2 : FA (fun _ => False) (fun _ => False) M1 M2 := FA.new e33
  have z2 : mZ M2 = mZ M1 + 1 := by rw [e33, mZ_New]
  have s2 : mS M2 = mS M1 + 3 := by rw [e33, mS_New]
  have k2 : mK M2 (mZ M1) = 11 := by rw [e33, mK_New, if_pos rfl]
  have o2 : mOk M2 := by rw [e33]; exact mOk_New o1
  have eF : mZ M1 = mZ M + 1 + 5 * (i - k) := z1
  refine (s_Fr_init (d := d) (F := mZ M1) o2 k2 z2 (by omega)).mono (fun M35 q => ?_)
  obtain ⟨o35, f35, ⟨z35, s35⟩, ⟨r0, r1⟩, t1, t3, i2⟩ := q
  have F35 : FA (fun x => x = mZ M1) (fun x => x = mZ M1) M1 M35 := (f2.mono (fun _ _ e => e.elim) (fun _ _ e => e.elim)).trans f35
  have hlt : mZ M < mZ M1 := by omega
  have c35 := F35.2 (mZ M) hlt
  have k35 : mK M35 (mZ M1) = 11 := by rw [(f35.2 (mZ M1) (by omega)).1]; exact k2
  rw [c35.1, c35.2.1, nz]
  refine ⟨o35, kz, ⟨by omega, by omega⟩, k35, fun M41 e41 => ?_⟩
  have F41 : FA (fun _ => False) (fun x => x = mZ M) M35 M41 := FA.ur rfl e41
  have nL : mZ M ∉ (mZ M1 + 1) :: (mZ M1 + 3) :: L1 := fun u => by
    rcases List.mem_cons.1 u with e | e
    · omega
    · rcases List.mem_cons.1 e with e | e
      · omega
      · exact oc.2.1 e
  have nf35 : NF ((mZ M1 + 1) :: (mZ M1 + 3) :: L1) W M35 := nf_grow F1 F35 (fun x hx e => by have e' : x = mZ M1 := e; omega) (fun x hx e => by have e' : x = mZ M1 := e; omega) (Nat.le_refl _) t1 t3 (hWn _ (by omega)) (hWn _ (by omega))
  have nf41 := nf_ur nf35 nL e41
  have old : ∀ a, a ∈ L1 → cp M41 a = cp M1 a := fun a ha => by
    have z := F1.lt ha
    have t := (F1.nt ha).fa F35 (fun e => by have e' : a = mZ M1 := e; omega) (fun e => by have e' : mR M1 a 0 = mZ M1 := e; omega) (fun e => by have e' : a = mZ M1 := e; omega)
    exact (t.fa F41 (fun e => e) (fun e => e) (fun e => oc.2.1 (by rw [← e]; exact ha))).cp
  have n1 : mZ M1 + 1 ≠ mZ M := by omega
  have n3 : mZ M1 + 3 ≠ mZ M := by omega
  have c1 : cp M41 (mZ M1 + 1) = 4 := (t1.fa F41 (fun e => e) (fun e => e) n1).cp
  have c3 : cp M41 (mZ M1 + 3) = 4 := (t3.fa F41 (fun e => e) (fun e => e) n3).cp
  have fF : FrP M41 (mZ M1) := by
    have q : FrP M35 (mZ M1) := ⟨k35, ⟨r0, r1⟩, by omega⟩
    exact q.fa F41 (fun e => by have e' : mZ M1 = mZ M := e; omega)
  have z41 : mZ M41 = mZ M35 := by rw [e41]; rfl
  have s41 : mS M41 = mS M35 := by rw [e41]; rfl
  have ei : i + 1 - k = i - k + 1 := by omega
  refine ⟨⟨by rw [e41]; exact mOk_UR o35, nf41⟩, ?_, ⟨?_, ?_⟩, ⟨by omega, by omega⟩, fun j hj => ?_, fun j hj1 hj2 => ?_, ⟨⟨by omega, nL, fun a ha u => ?_⟩, fun x hx => List.mem_cons_of_mem _ (List.mem_cons_of_mem _ (l1 x hx)), fun x hx => ?_⟩, ?_⟩
  · exact (f1.trans2 F35 (fun x hx e => by have e' : x = mZ M1 := e; omega) (fun x hx e => by have e' : x = mZ M1 := e; omega)).trans2 F41 (fun _ _ e => e) (fun x hx e => by have e' : x = mZ M := e; omega)
  · rw [e41]; show mK M35 (mZ M) = _; rw [c35.1]; exact kz
  · rw [e41]; show mN M35 (mZ M) = _; rw [c35.2.1]; exact nz
  · rw [e41, mR_UR]
    by_cases e : j = i
    · rw [if_pos ⟨rfl, e⟩, if_neg (by omega), e]; omega
    · rw [if_neg (fun u => e u.2), c35.2.2.2.1 (fun e => by have e' : mZ M = mZ M1 := e; omega)]
      exact rj j (by omega)
  · by_cases e : j = i
    · rw [e, ← eF]
      exact ⟨⟨fF, List.mem_cons_self .., List.mem_cons_of_mem _ (List.mem_cons_self ..)⟩, by rw [e41]; exact i2⟩
    · obtain ⟨⟨p1, p2, p3⟩, p4⟩ := fj j hj1 (by omega)
      have lt : mZ M + 1 + 5 * (j - k) < mZ M1 := p1.2.2
      have q1 : FrP M35 (mZ M + 1 + 5 * (j - k)) := p1.fa F35 (fun e => by have e' : mZ M + 1 + 5 * (j - k) = mZ M1 := e; omega)
      refine ⟨⟨q1.fa F41 (fun e => by have e' : mZ M + 1 + 5 * (j - k) = mZ M := e; omega), List.mem_cons_of_mem _ (List.mem_cons_of_mem _ p2), List.mem_cons_of_mem _ (List.mem_cons_of_mem _ p3)⟩, ?_⟩
      rw [e41]
      show mI M35 _ 2 = 1
      rw [(F35.2 _ lt).2.2.2.2 (fun e => by have e' : mZ M + 1 + 5 * (j - k) = mZ M1 := e; omega)]
      exact p4
  · have z := nf41.lt ha
    rcases List.mem_cons.1 ha with e | e
    · rw [e, (t1.fa F41 (fun e => e) (fun e => e) n1).1.2.1] at u; omega
    · rcases List.mem_cons.1 e with e | e
      · rw [e, (t3.fa F41 (fun e => e) (fun e => e) n3).1.2.1] at u; omega
      · have t := (F1.nt e).fa F35 (fun e' => by have e'' : a = mZ M1 := e'; have := (F1.lt e).1; omega) (fun e' => by have e'' : mR M1 a 0 = mZ M1 := e'; have := (F1.lt e).2; omega) (fun e' => by have e'' : a = mZ M1 := e'; have := (F1.lt e).1; omega)
        have t' := t.fa F41 (fun e => e) (fun e => e) (fun e' => oc.2.1 (by rw [← e']; exact e))
        rw [t'.1.2.1] at u
        exact oc.2.2 a e u
  · rcases List.mem_cons.1 hx with e | e
    · exact Or.inr ⟨by omega, by rw [e, (t1.fa F41 (fun e => e) (fun e => e) n1).1.2.1]; omega⟩
    · rcases List.mem_cons.1 e with e | e
      · exact Or.inr ⟨by omega, by rw [e, (t3.fa F41 (fun e => e) (fun e => e) n3).1.2.1]; omega⟩
      · rcases l2 x e with q | q
        · exact Or.inl q
        · refine Or.inr ⟨q.1, ?_⟩
          have t := (F1.nt e).fa F35 (fun e' => by have e'' : x = mZ M1 := e'; have := (F1.lt e).1; omega) (fun e' => by have e'' : mR M1 x 0 = mZ M1 := e'; have := (F1.lt e).2; omega) (fun e' => by have e'' : x = mZ M1 := e'; have := (F1.lt e).1; omega)
          have t' := t.fa F41 (fun e => e) (fun e => e) (fun e' => oc.2.1 (by rw [← e']; exact e))
          rw [t'.1.2.1]
          exact q.2
  · refine ⟨by rw [List.length_cons, List.length_cons]; omega, ?_, ?_⟩
    · rw [psum, psum, c1, c3, psum_congr L1 old, g2]; omega
    · rw [psum, psum]
      show cp M41 (mZ M1 + 1) / 4 + (cp M41 (mZ M1 + 3) / 4 + psum (fun p => cp M41 p / 4) L1) = _
      rw [c1, c3, psum_congr (g := fun p => cp M1 p / 4) L1 (fun q hq => by show cp M41 q / 4 = cp M1 q / 4; rw [old q hq]), g3]
      omega
end NBD
end
section
/-! Tables of fractions: reserve, the whole. -/
section NBE
variable {G : mG} {d a z n m w S B u g R R' cn cnt f F s i k K : Nat} {M M0 M' M1 M2 M3 : mM} {L L' L1 : List Nat} {W : Nat → Nat}
theorem s_rv_cp (h : RvI L W M R k K i L1 M1) (hik : i < k) (hiK : i < K) {v : Nat} (hv : v = mR M R i) (e : M2 = mUR M1 (mZ M) i v) : RvI L W M R k K (i + 1) L1 M2 := by
  obtain ⟨⟨o1, F1⟩, f1, ⟨kz, nz⟩, ⟨z1, s1⟩, rj, fj, ⟨oc, l1, l2⟩, ⟨g1, g2, g3⟩⟩ := h
  have F2 : FA (fun _ => False) (fun x => x = mZ M) M1 M2 := FA.ur rfl e
  have ei : i + 1 - k = i - k := by omega
  have nf2 := nf_ur F1 oc.2.1 e
  have cc : ∀ a, a ∈ L1 → cp M2 a = cp M1 a := fun a ha => ((F1.nt ha).fa F2 (fun e => e) (fun e => e) (fun e' => oc.2.1 (by rw [← e']; exact ha))).cp
  have rr : ∀ a, a ∈ L1 → mR M2 a 0 = mR M1 a 0 := fun a ha => ((F1.nt ha).fa F2 (fun e => e) (fun e => e) (fun e' => oc.2.1 (by rw [← e']; exact ha))).1.2.1
  refine ⟨⟨by rw [e]; exact mOk_UR o1, nf2⟩, f1.trans2 F2 (fun _ _ e => e) (fun x hx e => by have e' : x = mZ M := e; omega), ⟨by rw [e]; exact kz, by rw [e]; exact nz⟩, ⟨by rw [e, ei]; exact z1, by rw [e, ei]; exact s1⟩, fun j hj => ?_, fun j hj1 hj2 => absurd hj2 (by omega), ⟨⟨by rw [e]; exact oc.1, oc.2.1, fun a ha u => oc.2.2 a ha (by rw [← rr a ha]; exact u)⟩, l1, fun x hx => (l2 x hx).imp (fun q => q) (fun q => ⟨q.1, by rw [rr x hx]; exact q.2⟩)⟩, by rw [ei]; exact g1, by rw [ei, psum_congr L1 cc]; exact g2, by rw [ei, psum_congr (g := fun p => cp M1 p / 4) L1 (fun q hq => by show cp M2 q / 4 = cp M1 q / 4; rw [cc q hq])]; exact g3⟩
  rw [e, mR_UR]
  by_cases c : j = i
  · rw [if_pos ⟨rfl, c⟩, c, if_pos hik, hv]
  · rw [if_neg (fun u => c u.2)]
    exact rj j (by omega)
/-- what stood apart stands apart -/
theorem rv_oc {x : Nat} (hF : NF L W M) (F1 : NF L1 W M1) (f1 : FA (fun _ => False) (fun _ => False) M M1) (l2 : ∀ x, x ∈ L1 → x ∈ L ∨ (mZ M < x ∧ mZ M < mR M1 x 0)) (hx : Oc L M x) : Oc L1 M1 x := by
  have zx := hx.1
  refine ⟨Nat.lt_of_lt_of_le hx.1 f1.1.1, fun u => ?_, fun b hb u => ?_⟩
  · rcases l2 x u with e | e
    · exact hx.2.1 e
    · omega
  · rcases l2 b hb with e | e
    · rw [(f1.2 b (hF.lt e).1).2.2.2.1 (fun e => e)] at u
      exact hx.2.2 b e u
    · omega
theorem oc_ur {x y j v : Nat} (h : Oc L M x) (hy : y ∉ L) (e : M' = mUR M y j v) : Oc L M' x := by
  refine ⟨by rw [e]; exact h.1, h.2.1, fun b hb u => h.2.2 b hb ?_⟩
  rw [e, mR_UR, if_neg (fun q => hy (by rw [← q.1]; exact hb))] at u
  exact u
/-- the loop -/
theorem s_rv32 (hF : NF L W M) (hT : RwT L M a R k) (hK : k < K ∧ K ≤ 512 ∧ (2 * k ≤ K ∨ K = 512)) (hc : cnt ≤ K) (hWn : ∀ x, mZ M < x → 2 ≤ W x ∧ W x ≤ 20000) : ∀ (t i : Nat) (L1 : List Nat) (M1 : mM), K ≤ i + t → i ≤ K → RvI L W M R k K i L1 M1 → h_Fs_reserve_32 G (d + 2) a (mZ M) i M1 (rvQ L W a M R k cnt) := by
  obtain ⟨t1, t2, t3, t4, ⟨t5, t6⟩, t7⟩ := id hT
  have za := t5.1
  have zR := t6.1
  intro t
  induction t with
  | zero =>
    intro i L1 M1 h1 h2 hI
    have ei : i = K := by omega
    subst ei
    obtain ⟨⟨o1, F1⟩, f1, ⟨kz, nz⟩, ⟨z1, s1⟩, rj, fj, ⟨oc, l1, l2⟩, ⟨g1, g2, g3⟩⟩ := hI
    refine k_Fs_reserve_32 o1 ⟨by omega, by omega⟩ ?_
    rw [kz, nz]
    refine ⟨rfl, ⟨by omega, by omega⟩, fun _ => ⟨by rw [(f1.2 a za).1]; exact t1, fun M20 e20 => ?_⟩, fun u => absurd (Int.le_refl _) u⟩
    have oa := rv_oc hF F1 f1 l2 t5
    have naL : a ∉ L1 := oa.2.1
    have F20 : FA (fun _ => False) (fun x => x = a) M1 M20 := FA.ur rfl e20
    have nf := nf_ur F1 naL e20
    have ff : FA (fun _ => False) (fun x => x = a) M M20 := (f1.mono (fun _ _ e => e) (fun _ _ e => e.elim)).trans F20
    have cc : ∀ b, b ∈ L1 → cp M20 b = cp M1 b := fun b hb => ((F1.nt hb).fa F20 (fun e => e) (fun e => e) (fun e => naL (by rw [← e]; exact hb))).cp
    have rz : mR M20 (mZ M) = mR M1 (mZ M) := by
      funext j
      rw [e20, mR_UR, if_neg (fun u => by omega)]
    have fr : ∀ {f : Nat}, FrP M1 f → FrP M20 f := fun hf => hf.fa F20 (fun e => by
      have e' := hf.1
      have e'' : mK M1 a = 13 := by rw [(f1.2 a za).1]; exact t1
      rw [e, e''] at e'
      omega)
    refine ⟨L1, mZ M, i, by rw [e20]; exact mOk_UR o1, nf, l1, fun x hx => (l2 x hx).imp (fun q => q) (fun q => ⟨q.1, by rw [((F1.nt hx).fa F20 (fun e => e) (fun e => e) (fun e => naL (by rw [← e]; exact hx))).1.2.1]; exact q.2⟩), ⟨by rw [(ff.2 a za).1]; exact t1, by rw [e20, mR_UR, if_pos ⟨rfl, rfl⟩], by rw [e20]; exact kz, by rw [e20]; exact nz, ⟨oc_ur oa naL e20, oc_ur oc naL e20⟩, fun j hj => ?_⟩, ⟨hc, by omega⟩, ff, fun j hj => by rw [e20, mR_UR, if_neg (fun u => hj u.2), (f1.2 a za).2.2.2.1 (fun e => e)], fun j hj => by rw [rz, rj j (by omega), if_pos hj], fun j hj1 hj2 => ⟨by rw [rz, rj j hj2, if_neg (by omega)], by rw [e20]; exact (fj j hj1 hj2).2⟩, Or.inr ⟨rfl, hK, g1, ⟨by rw [e20]; exact z1, by rw [e20]; exact s1⟩, by rw [psum_congr L1 cc]; exact g2, by rw [psum_congr (g := fun p => cp M1 p / 4) L1 (fun q hq => by show cp M20 q / 4 = cp M1 q / 4; rw [cc q hq])]; exact g3⟩⟩
    rw [rz, rj j hj]
    by_cases c : j < k
    · rw [if_pos c]
      obtain ⟨p1, p2, p3⟩ := t7 j c
      exact ⟨fr (p1.fa f1 (fun e => e)), l1 _ p2, l1 _ p3⟩
    · rw [if_neg c]
      obtain ⟨⟨p1, p2, p3⟩, -⟩ := fj j (by omega) hj
      exact ⟨fr p1, p2, p3⟩
  | succ t ih =>
    intro i L1 M1 h1 h2 hI
    by_cases ei : i = K
    · exact ih i L1 M1 (by omega) h2 hI
    have hiK : i < K := by omega
    obtain ⟨⟨o1, F1⟩, f1, ⟨kz, nz⟩, ⟨z1, s1⟩, rj, fj, -, -⟩ := id hI
    have ra : mR M1 a 0 = R := by rw [(f1.2 a za).2.2.2.1 (fun e => e)]; exact t2
    refine k_Fs_reserve_32 o1 ⟨by omega, by omega⟩ ?_
    rw [kz, nz, ra, (f1.2 R zR).1, (f1.2 R zR).2.1, t3, t4, Int.toNat_natCast, (f1.2 a za).1, show ((i : Int) + 1) = ((i + 1 : Nat) : Int) by omega]
    refine ⟨rfl, ⟨by omega, by omega⟩, fun u => absurd u (by omega), fun _ => ⟨t1, rfl, ⟨by omega, by omega⟩, fun u M33 e33 => (s_rv_new (d := d) hI (by omega) hiK hWn e33).mono (fun M35 q => ?_), fun u => ⟨⟨by omega, by omega⟩, ⟨by omega, by omega⟩, ?_, fun M46 e46 => ?_⟩⟩⟩
    · obtain ⟨q1, q2, q3, q4, q5⟩ := q
      exact ⟨q1, q2, q3, q4, fun M41 e41 => ih (i + 1) _ M41 (by omega) (by omega) (q5 M41 e41)⟩
    · rw [(f1.2 R zR).2.2.2.1 (fun e => e), (f1.2 _ (t7 i (by omega)).1.2.2).1]
      exact (t7 i (by omega)).1.1
    · refine ih (i + 1) L1 M46 (by omega) (by omega) (s_rv_cp hI (by omega) hiK ?_ e46)
      rw [(f1.2 R zR).2.2.2.1 (fun e => e)]
/-- room for cnt fractions -/
theorem f_Fs_reserve (hO : mOk M) (hF : NF L W M) (hT : RwT L M a R k) (hk : k ≤ 512) (hc : cnt ≤ 512) (hWn : ∀ x, mZ M < x → 2 ≤ W x ∧ W x ≤ 20000) : Cv G y_Fs_reserve (d + 3) [vr a, vi cnt] M (rvQ L W a M R k cnt) := by
  obtain ⟨t1, t2, t3, t4, ⟨t5, t6⟩, t7⟩ := id hT
  refine k_Fs_reserve hO ⟨by omega, by omega⟩ ?_
  rw [t2, t4]
  refine ⟨t1, t3, ⟨by omega, by omega⟩, fun u => ?_, fun u => ⟨⟨by omega, by omega⟩, ?_⟩⟩
  · exact ⟨L, R, k, hO, hF, fun _ h => h, fun _ h => Or.inl h, hT, ⟨by omega, Nat.le_refl _⟩, FA.refl, fun _ _ => rfl, fun _ _ => rfl, fun i h1 h2 => absurd h2 (by omega), Or.inl ⟨rfl, rfl, rfl, rfl⟩⟩
  · obtain ⟨K, eK, K1, K2⟩ : ∃ K : Nat, (if (if ((cnt : Nat) : Int) < 2 * ((k : Nat) : Int) then 2 * ((k : Nat) : Int) else ((cnt : Nat) : Int)) < 512 then (if ((cnt : Nat) : Int) < 2 * ((k : Nat) : Int) then 2 * ((k : Nat) : Int) else ((cnt : Nat) : Int)) else 512) = ((K : Nat) : Int) ∧ (k < K ∧ K ≤ 512 ∧ (2 * k ≤ K ∨ K = 512)) ∧ cnt ≤ K := by
      by_cases c1 : ((cnt : Nat) : Int) < 2 * ((k : Nat) : Int)
      · rw [if_pos c1]
        by_cases c2 : 2 * ((k : Nat) : Int) < 512
        · rw [if_pos c2]; exact ⟨2 * k, by omega, by omega, by omega⟩
        · rw [if_neg c2]; exact ⟨512, rfl, by omega, by omega⟩
      · rw [if_neg c1]
        by_cases c2 : ((cnt : Nat) : Int) < 512
        · rw [if_pos c2]; exact ⟨cnt, rfl, by omega, Nat.le_refl _⟩
        · rw [if_neg c2]; exact ⟨512, rfl, by omega, by omega⟩
    rw [eK, Int.toNat_natCast]
    refine ⟨⟨by omega, by omega⟩, fun M9 e9 => ?_⟩
    have f9 : FA (fun _ => False) (fun _ => False) M M9 := FA.new e9
    have nt9 : ∀ b, b ∈ L → Nt M9 b (mR M b 0) (cp M b) (sz M b) := fun b hb => (hF.nt hb).fa f9 (fun e => e) (fun e => e) (fun e => e)
    have nf9 : NF L W M9 := ⟨hF.1, fun b hb => ⟨(nt9 b hb).nn, by rw [(nt9 b hb).cp]; exact (hF.2.1 b hb).2.1, (hF.2.1 b hb).2.2⟩, fun b c hb hc u => hF.2.2 b c hb hc (by rw [← (nt9 b hb).1.2.1, ← (nt9 c hc).1.2.1]; exact u)⟩
    have cc : ∀ b, b ∈ L → cp M9 b = cp M b := fun b hb => (nt9 b hb).cp
    have nz : mZ M ∉ L := fun u => by have := (hF.lt u).1; omega
    refine s_rv32 (d := d) hF hT K1 K2 hWn K 0 L M9 (by omega) (by omega) ⟨⟨by rw [e9]; exact mOk_New hO, nf9⟩, f9, ⟨by rw [e9, mK_New, if_pos rfl], by rw [e9, mN_New, if_pos rfl]⟩, ⟨by rw [e9, mZ_New]; omega, by rw [e9, mS_New]; omega⟩, fun j hj => absurd hj (by omega), fun j _ hj => absurd hj (by omega), ⟨⟨by rw [e9, mZ_New]; omega, nz, fun b hb u => ?_⟩, fun _ h => h, fun _ h => Or.inl h⟩, by omega, ?_, ?_⟩
    · rw [(nt9 b hb).1.2.1] at u
      have := (hF.lt hb).2
      omega
    · rw [psum_congr L cc]; omega
    · rw [psum_congr (g := fun p => cp M p / 4) L (fun q hq => by show cp M9 q / 4 = cp M q / 4; rw [cc q hq])]; omega
end NBE
end
section
/-! Tables of fractions: begin. -/
section NBF
variable {G : mG} {d a z n m w S B u g R R' cn cnt f f' F s i k K : Nat} {M M0 M' M1 M2 M3 : mM} {L L' L1 : List Nat} {W : Nat → Nat} {T I : Nat → Prop} {r : Prop}
/-- two fractions lie apart -/
def Frd (f f' : Nat) : Prop := f ≠ f' ∧ f + 1 ≠ f' + 3 ∧ f + 3 ≠ f' + 1
theorem Frd.sym (h : Frd f f') : Frd f' f := ⟨fun e => h.1 e.symm, fun e => h.2.2 e.symm, fun e => h.2.1 e.symm⟩
theorem Frd.t2 (h : Frd f f') : ¬ T2 f' (f + 1) ∧ ¬ T2 f' (f + 3) := by
  obtain ⟨h1, h2, h3⟩ := h
  unfold T2
  omega
def RwD (M : mM) (R k : Nat) : Prop := ∀ i j, i < k → j < k → i ≠ j → Frd (mR M R i) (mR M R j)
/-- a table in its surroundings -/
def Te (L : List Nat) (W : Nat → Nat) (z g a R k : Nat) (M : mM) : Prop := (mOk M ∧ NF L W M ∧ SK L M z) ∧ (GK9 M g ∧ ∀ i, i ≤ 9 → Oc L M (g + i)) ∧ RwT L M a R k ∧ (∀ i, i < k → Rap z (mR M R i)) ∧ RwD M R k
theorem RwT.ws (h : RwT L M a R k) (hc : cn ≤ k) : Rws L M a R cn := by
  obtain ⟨h1, h2, h3, h4, h5, h6⟩ := h
  exact ⟨h1, h2, h3, by omega, h5, fun i hi => h6 i (by omega)⟩
theorem Te.pe (h : Te L W z g a R k M) (hc : cn ≤ k) : Pe L W z g a R cn M := ⟨h.1, h.2.1, h.2.2.1.ws hc, fun i hi => h.2.2.2.1 i (by omega)⟩
theorem Te.nl (h : Te L W z g a R k M) (q : NL L W T I r z M M') (hS : SK L M' z) (hI : ∀ x, I x → mK M x = 11) : Te L W z g a R k M' ∧ (∀ i, i ≤ 9 → mI M' (g + i) = mI M (g + i)) ∧ mR M' R = mR M R := by
  obtain ⟨t1, t2, t3, t4, t5⟩ := ((h.pe (Nat.le_refl _)).we (w := z + 18) (Or.inl rfl)).tb q hI
  obtain ⟨⟨h1, h2, h3⟩, h4, h5, h6, h7⟩ := h
  obtain ⟨p1, p2, p3, p4, p5, p6⟩ := h5
  obtain ⟨q1, q2, q3, q4, q5, q6⟩ := t4
  refine ⟨⟨⟨q.ok, q.nf, hS⟩, ⟨t1, t2⟩, ⟨q1, q2, q3, ?_, q5, q6⟩, fun i hi => by rw [t5]; exact h6 i hi, fun i j hi hj ij => by rw [t5]; exact h7 i j hi hj ij⟩, t3, t5⟩
  rw [(q.2.2.1.2 R p5.2.1).2.1]
  exact p4
/-- the numbers, and the cells, of the first n rows -/
def Trw (M : mM) (R n x : Nat) : Prop := ∃ i, i < n ∧ T2 (mR M R i) x
def Irw (M : mM) (R n x : Nat) : Prop := ∃ i, i < n ∧ x = mR M R i
theorem Te.trw (h : Te L W z g a R k M) (hn : n ≤ k) : ∀ t, Trw M R n t → t ∈ L := fun t ⟨i, hi, ht⟩ => (h.2.2.1.2.2.2.2.2 i (by omega)).t2 t ht
theorem Te.irw (h : Te L W z g a R k M) (hn : n ≤ k) : ∀ x, Irw M R n x → x < mZ M ∧ mK M x = 11 := fun x ⟨i, hi, e⟩ => by
  have := (h.2.2.1.2.2.2.2.2 i (by omega)).1
  rw [e]
  exact ⟨this.2.2, this.1⟩
/-- one row is written -/
theorem Te.row (h : Te L W z g a R k M) (hi : i < n) (hn : n ≤ k) (q : NL L W (T2 (mR M R i)) (fun x => x = mR M R i) False z M M') : NL L W (Trw M R n) (Irw M R n) False z M M' ∧ Te L W z g a R k M' ∧ (∀ i, i ≤ 9 → mI M' (g + i) = mI M (g + i)) ∧ mR M' R = mR M R := by
  have q' : NL L W (Trw M R n) (Irw M R n) False z M M' := q.mono h.1.2.1 (fun t ht => ⟨i, hi, ht⟩) (h.trw hn) (fun x e => ⟨i, hi, e⟩) (h.irw hn) (fun e => e)
  obtain ⟨e1, e2, e3⟩ := h.nl q' (q.sk h.1.2.1 h.1.2.2) (fun x e => (h.irw hn x e).2)
  exact ⟨q', e1, e2, e3⟩
/-- the other rows stay -/
theorem Te.keep (h : Te L W z g a R k M) {j : Nat} (hi : i < k) (hj : j < k) (ij : j ≠ i) (q : NL L W (T2 (mR M R i)) (fun x => x = mR M R i) False z M M') : nv M' (mR M R j + 1) = nv M (mR M R j + 1) ∧ nv M' (mR M R j + 3) = nv M (mR M R j + 3) ∧ mI M' (mR M R j) = mI M (mR M R j) := by
  have d := h.2.2.2.2 j i hj hi ij
  have f := h.2.2.1.2.2.2.2.2 j hj
  exact ⟨(q.num h.1.2.1 f.2.1 d.t2.1).2.2, (q.num h.1.2.1 f.2.2 d.t2.2).2.2, (q.frp h.1.2.1 f.1).2 d.1⟩
/-- after begin -/
def bgQ (M : mM) (R cn : Nat) : Prop := ∀ i, i < cn → (nv M (mR M R i + 1) = 0 ∨ nv M (mR M R i + 1) = 1) ∧ nv M (mR M R i + 3) = 1 ∧ mI M (mR M R i) 2 = 1
/-- targets are 1, others 0 -/
def bgV (M : mM) (g R cn : Nat) : Prop := ∀ i, i < cn → nv M (mR M R i + 1) = if mI M (g + 2) i = 3 then 1 else 0
theorem s_bg10 (h0 : Te L W z g a R k M0) (hcn : cn ≤ k) (hk : k ≤ 512) (e0 : mI M0 g 0 = ((cn : Nat) : Int)) : ∀ (t i : Nat) (M : mM), cn ≤ i + t → i ≤ cn → NL L W (Trw M0 R cn) (Irw M0 R cn) False z M0 M → Te L W z g a R k M → mR M R = mR M0 R → mI M g 0 = ((cn : Nat) : Int) → bgQ M R i → bgV M g R i → h_Fs_begin_10 G (d + 1) a g i M (fun M' => NL L W (Trw M0 R cn) (Irw M0 R cn) False z M0 M' ∧ bgQ M' R cn ∧ bgV M' g R cn) := by
  intro t
  induction t with
  | zero =>
    intro i M h1 h2 hN hT eR eg hb hw
    have ei : i = cn := by omega
    subst ei
    refine k_Fs_begin_10 hN.ok ⟨by omega, by omega⟩ ?_
    rw [eg]
    exact ⟨hT.2.1.1.1, fun _ => ⟨hN, hb, hw⟩, fun u => absurd (Int.le_refl _) u⟩
  | succ t ih =>
    intro i M h1 h2 hN hT eR eg hb hw
    by_cases ei : i = cn
    · exact ih i M (by omega) h2 hN hT eR eg hb hw
    have hi : i < cn := by omega
    obtain ⟨⟨hO, hF, hS⟩, ⟨⟨g1, ⟨r2, -⟩, kk, ⟨n2, -⟩⟩, -⟩, ⟨t1, t2, t3, t4, -, t6⟩, -, -⟩ := id hT
    refine k_Fs_begin_10 hN.ok ⟨by omega, by omega⟩ ?_
    rw [eg, t2, t4, r2, n2, Int.toNat_natCast]
    refine ⟨g1, fun u => absurd u (by omega), fun _ => ⟨t1, t3, ⟨by omega, by omega⟩, kk 2 (by decide) (by decide), ⟨by omega, by omega⟩, fun v20 e20 => ⟨(t6 i (by omega)).1.1, ?_⟩⟩⟩
    have v01 : v20 = 0 ∨ v20 = 1 := by rw [e20]; split <;> omega
    refine (f_Fr_put0 (d := d) ⟨by omega, by omega⟩ hO hF (t6 i (by omega)) hS.z9).mono (fun M26 q => ?_)
    obtain ⟨q1, q2, q3, q4⟩ := q
    obtain ⟨p1, p2, p3, p4⟩ := hT.row hi (by omega) q1
    have p1' : NL L W (Trw M0 R cn) (Irw M0 R cn) False z M M26 := by
      unfold Trw Irw at p1 ⊢
      rw [eR] at p1
      exact p1
    rw [show ((i : Int) + 1) = ((i + 1 : Nat) : Int) by omega]
    have g0 := p3 0 (by decide)
    rw [Nat.add_zero] at g0
    refine ⟨q1.ok, ih (i + 1) M26 (by omega) (by omega) (hN.trans p1') p2 (by rw [p4, eR]) (by rw [g0]; exact eg) (fun j hj => ?_) (fun j hj => ?_)⟩
    rotate_left
    · rw [p4, p3 2 (by decide)]
      by_cases c : j = i
      · rw [c, q2]
        exact e20
      · obtain ⟨k1, k2, k3⟩ := hT.keep (j := j) (by omega) (by omega) c q1
        rw [k1]
        exact hw j (by omega)
    rw [p4]
    by_cases c : j = i
    · rw [c]
      exact ⟨by rw [q2]; exact v01, q3, q4⟩
    · obtain ⟨k1, k2, k3⟩ := hT.keep (j := j) (by omega) (by omega) c q1
      rw [k1, k2, k3]
      exact hb j (by omega)
end NBF
end
section
/-! Tables of fractions: what growth leaves as it was; begin as a whole. -/
section NBG
variable {G : mG} {d a b z n m w S B u g R R' Rb kb cn cnt f f' F s i k k' K x : Nat} {M M0 M' M1 M2 M3 : mM} {L L' L1 : List Nat} {W : Nat → Nat} {T I : Nat → Prop} {r : Prop}
/-- a step of growth -/
def Gw (L : List Nat) (W : Nat → Nat) (a : Nat) (M : mM) (L' : List Nat) (M' : mM) : Prop := mOk M' ∧ (NF L W M ∧ NF L' W M') ∧ (∀ x, x ∈ L → x ∈ L') ∧ (∀ x, x ∈ L' → x ∈ L ∨ (mZ M < x ∧ mZ M < mR M' x 0)) ∧ FA (fun _ => False) (fun x => x = a) M M' ∧ (a ∉ L ∧ mK M a = 13)
theorem Gw.rf (h : Gw L W a M L' M') {b : Nat} (hb : b ∈ L) : mR M' b = mR M b ∧ nv M' b = nv M b ∧ sz M' b = sz M b := by
  obtain ⟨-, ⟨h1, h2⟩, h3, h4, h5, h6, -⟩ := h
  have z := h1.lt hb
  have e1 := (h5.2 b z.1).2.2.2.1 (fun e => h6 (by rw [← e]; exact hb))
  have e2 := (h5.2 b z.1).2.2.2.2 (fun e => e)
  have e3 := (h5.2 _ z.2).2.2.2.2 (fun e => e)
  have e4 : sz M' b = sz M b := by unfold sz; rw [e2]
  exact ⟨e1, by unfold nv; rw [e4, e1, e3], e4⟩
theorem Gw.oc (h : Gw L W a M L' M') (hx : Oc L M x) : Oc L' M' x := by
  have q := h
  obtain ⟨-, ⟨h1, h2⟩, h3, h4, h5, h6, -⟩ := h
  have zx := hx.1
  refine ⟨Nat.lt_of_lt_of_le hx.1 h5.1.1, fun u => ?_, fun b hb u => ?_⟩
  · rcases h4 x u with e | e
    · exact hx.2.1 e
    · omega
  · rcases h4 b hb with e | e
    · rw [(q.rf e).1] at u
      exact hx.2.2 b e u
    · omega
theorem Gw.frl (h : Gw L W a M L' M') (hf : FrL L M f) : FrL L' M' f ∧ mI M' f = mI M f := by
  obtain ⟨-, ⟨h1, h2⟩, h3, h4, h5, h6, h7⟩ := h
  have z := hf.1.2.2
  refine ⟨⟨hf.1.fa h5 (fun e => ?_), h3 _ hf.2.1, h3 _ hf.2.2⟩, (h5.2 f z).2.2.2.2 (fun e => e)⟩
  have := hf.1.1
  rw [e, h7] at this
  omega
theorem Gw.sk (h : Gw L W a M L' M') (hS : SK L M z) : SK L' M' z := by
  obtain ⟨⟨k1, k2⟩, k3, k4, ⟨k5, k6, k7⟩, ⟨k8, k9⟩, ⟨l1, l2, l3, l4, l5, l6, l7, l8⟩, ⟨l9, l10, l11, l12⟩⟩ := hS
  have f8 := (h.frl (f := z + 18) ⟨k8, l9, l10⟩).1
  have f9 := (h.frl (f := z + 23) ⟨k9, l11, l12⟩).1
  obtain ⟨-, ⟨h1, h2⟩, h3, h4, h5, h6, h7⟩ := h
  have ne : z ≠ a := fun e => by rw [e, h7] at k1; omega
  have rz := (h5.2 z k2).2.2.2.1 ne
  have le := h5.1.1
  refine ⟨⟨by rw [(h5.2 z k2).1]; exact k1, by omega⟩, by rw [rz]; exact k3, by rw [rz]; exact k4, ⟨by rw [(h5.2 _ k7).1]; exact k5, by rw [(h5.2 _ k7).2.1]; exact k6, by omega⟩, ⟨f8.1, f9.1⟩, ⟨h3 _ l1, h3 _ l2, h3 _ l3, h3 _ l4, h3 _ l5, h3 _ l6, h3 _ l7, h3 _ l8⟩, h3 _ l9, h3 _ l10, h3 _ l11, h3 _ l12⟩
theorem Gw.gk (h : Gw L W a M L' M') (hG : GK9 M g ∧ ∀ i, i ≤ 9 → Oc L M (g + i)) : (GK9 M' g ∧ ∀ i, i ≤ 9 → Oc L' M' (g + i)) ∧ ∀ i, i ≤ 9 → mI M' (g + i) = mI M (g + i) := by
  obtain ⟨h8, h9⟩ := hG
  have oc := fun i (hi : i ≤ 9) => h.oc (h9 i hi)
  obtain ⟨-, ⟨h1, h2⟩, h3, h4, h5, h6, h7⟩ := h
  have c := fun i (hi : i ≤ 9) => h5.2 (g + i) (h9 i hi).1
  have ne : g ≠ a := fun e => by have := h8.1; rw [e, h7] at this; omega
  have c0 := c 0 (by decide)
  rw [Nat.add_zero] at c0
  refine ⟨⟨⟨by rw [c0.1]; exact h8.1, by rw [c0.2.2.2.1 ne]; exact h8.2.1, fun i hi hi' => by rw [(c i hi').1]; exact h8.2.2.1 i hi hi', ?_⟩, oc⟩, fun i hi => (c i hi).2.2.2.2 (fun e => e)⟩
  rw [(c 2 (by decide)).2.1, (c 4 (by decide)).2.1, (c 6 (by decide)).2.1, (c 7 (by decide)).2.1, (c 8 (by decide)).2.1, (c 9 (by decide)).2.1]
  exact h8.2.2.2
/-- another table -/
theorem Gw.te (h : Gw L W a M L' M') (hT : Te L W z g b Rb kb M) (ab : b ≠ a) : Te L' W z g b Rb kb M' ∧ mR M' Rb = mR M Rb := by
  obtain ⟨⟨h1, h2, h3⟩, h4, ⟨t1, t2, t3, t4, ⟨t5, t6⟩, t7⟩, h6, h7⟩ := hT
  have sk := h.sk h3
  have gk := (h.gk h4).1
  have fr := fun i (hi : i < kb) => (h.frl (t7 i hi)).1
  have ob := h.oc t5
  have oR := h.oc t6
  obtain ⟨q0, ⟨q1, q2⟩, q3, q4, q5, q6, q7⟩ := h
  have cb := q5.2 b t5.1
  have cR := q5.2 Rb t6.1
  have nR : Rb ≠ a := fun e => by rw [e, q7] at t3; omega
  have eR := cR.2.2.2.1 nR
  exact ⟨⟨⟨q0, q2, sk⟩, gk, ⟨by rw [cb.1]; exact t1, by rw [cb.2.2.2.1 ab]; exact t2, by rw [cR.1]; exact t3, by rw [cR.2.1]; exact t4, ⟨ob, oR⟩, fun i hi => by rw [eR]; exact fr i hi⟩, fun i hi => by rw [eR]; exact h6 i hi, fun i j hi hj ij => by rw [eR]; exact h7 i j hi hj ij⟩, eR⟩
/-- the table that grew -/
theorem rv_te (hT : Te L W z g a R k M) (q : rvQ L W a M R k cnt M') : ∃ L' R' k', Gw L W a M L' M' ∧ Te L' W z g a R' k' M' ∧ (cnt ≤ k' ∧ k ≤ k') ∧ (∀ i, i < k → mR M' R' i = mR M R i) ∧ (∀ i, k ≤ i → i < k' → mR M' R' i = mZ M + 1 + 5 * (i - k) ∧ mI M' (mZ M + 1 + 5 * (i - k)) 2 = 1) ∧ ((M' = M ∧ L' = L ∧ R' = R ∧ k' = k) ∨ rvG L M R k L' M' R' k') := by
  obtain ⟨⟨h1, h2, h3⟩, h4, ⟨t1, t2, t3, t4, ⟨t5, t6⟩, t7⟩, h6, h7⟩ := id hT
  obtain ⟨L', R', k', q1, q2, q3, q4, q5, q6, q7, -, q9, q10, q11⟩ := q
  have gw : Gw L W a M L' M' := ⟨q1, ⟨h2, q2⟩, q3, q4, q7, t5.2.1, t1⟩
  have zS := h3.2.2.2.2.2.2
  have z26 : z + 26 < mZ M := (h2.lt zS.2.2.2).1
  have lt : ∀ i, i < k → mR M R i + 3 < mZ M := fun i hi => (h2.lt (t7 i hi).2.2).1
  refine ⟨L', R', k', gw, ⟨⟨q1, q2, gw.sk h3⟩, (gw.gk h4).1, q5, fun i hi => ?_, fun i j hi hj ij => ?_⟩, q6, q9, q10, q11⟩
  · by_cases c : i < k
    · rw [q9 i c]; exact h6 i c
    · rw [(q10 i (by omega) hi).1]
      unfold Rap Tpk T4 Tor T2
      omega
  · by_cases c1 : i < k
    · by_cases c2 : j < k
      · rw [q9 i c1, q9 j c2]; exact h7 i j c1 c2 ij
      · rw [q9 i c1, (q10 j (by omega) hj).1]
        have := lt i c1
        unfold Frd
        omega
    · by_cases c2 : j < k
      · rw [q9 j c2, (q10 i (by omega) hi).1]
        have := lt j c2
        unfold Frd
        omega
      · rw [(q10 i (by omega) hi).1, (q10 j (by omega) hj).1]
        unfold Frd
        omega
/-- what begin leaves behind -/
def begQ (L : List Nat) (W : Nat → Nat) (z g a R k cn : Nat) (M M' : mM) : Prop := ∃ L' R' k' M1, Gw L W a M L' M1 ∧ Te L' W z g a R' k' M1 ∧ (cn ≤ k' ∧ k ≤ k') ∧ ((M1 = M ∧ L' = L ∧ R' = R ∧ k' = k) ∨ rvG L M R k L' M1 R' k') ∧ (∀ i, i < k → mR M1 R' i = mR M R i) ∧ (∀ i, k ≤ i → i < k' → mR M1 R' i = mZ M + 1 + 5 * (i - k) ∧ mI M1 (mZ M + 1 + 5 * (i - k)) 2 = 1) ∧ NL L' W (Trw M1 R' cn) (Irw M1 R' cn) False z M1 M' ∧ bgQ M' R' cn ∧ bgV M' g R' cn
theorem f_begin (hT : Te L W z g a R k M) (hk : k ≤ 512) (hcn : cn ≤ 512) (e0 : mI M g 0 = ((cn : Nat) : Int)) (hWn : ∀ x, mZ M < x → 2 ≤ W x ∧ W x ≤ 20000) : Cv G y_Fs_begin (d + 4) [vr a, vr g] M (begQ L W z g a R k cn M) := by
  refine k_Fs_begin hT.1.1 ?_
  rw [e0]
  refine ⟨hT.2.1.1.1, hT.2.2.1.1, (f_Fs_reserve (d := d) hT.1.1 hT.1.2.1 hT.2.2.1 hk hcn hWn).mono (fun M3 q => ?_)⟩
  obtain ⟨L', R', k', gw, te, c, p1, p2, p3⟩ := rv_te hT q
  have g0 := (gw.gk hT.2.1).2 0 (by decide)
  rw [Nat.add_zero] at g0
  have k5 : k' ≤ 512 := by
    rcases p3 with ⟨-, -, -, e⟩ | ⟨-, e, -⟩ <;> omega
  have hm : ∀ {Q Q' : mM → Prop}, h_Fs_begin_10 G (d + 3) a g 0 M3 Q → (∀ M', Q M' → Q' M') → h_Fs_begin_10 G (d + 3) a g 0 M3 Q' := fun h hq => by
    unfold h_Fs_begin_10 at h ⊢
    exact mWm.mono h (fun r M' k => ⟨k.1, hq M' k.2⟩)
  refine ⟨gw.1, hm (s_bg10 (d := d + 2) te c.1 k5 (by rw [g0]; exact e0) cn 0 M3 (by omega) (by omega) (NL.refl gw.1 gw.2.1.2 (te.trw c.1) (te.irw c.1) te.1.2.2.z9) te rfl (by rw [g0]; exact e0) (fun i hi => absurd hi (by omega)) (fun i hi => absurd hi (by omega))) (fun M' q' => ⟨L', R', k', M3, gw, te, c, p3, p1, p2, q'.1, q'.2⟩)⟩
end NBG
end
section
/-! The Scales: one more move for all states. -/
section NBH
variable {G : mG} {d a b z n m w S B u g R R' Rb kb cn cnt cc bc f f' F s i k k' K x : Nat} {M M0 M' M1 M2 M3 : mM} {L L' L1 : List Nat} {W : Nat → Nat} {T I : Nat → Prop} {r : Prop}
/-- a game of cn states, cc commands -/
def GTT (M : mM) (g cn cc bc : Nat) : Prop := (cn ≤ 512 ∧ cc ≤ bc ∧ bc ≤ 4096) ∧ (∀ c, c < cc → cmdG M g cn bc c) ∧ (∀ j, j < cn → ∃ x y : Nat, mI M (g + 4) j = ((x : Nat) : Int) ∧ mI M (g + 4) (j + 1) = ((y : Nat) : Int) ∧ x ≤ y ∧ y ≤ cc ∧ y ≤ x + 60) ∧ mI M g 0 = ((cn : Nat) : Int)
theorem GTT.same (h : GTT M g cn cc bc) (e : ∀ i, i ≤ 9 → mI M' (g + i) = mI M (g + i)) : GTT M' g cn cc bc := by
  have e0 := e 0 (by decide)
  rw [Nat.add_zero] at e0
  exact ⟨h.1, fun c hc => (h.2.1 c hc).same e, fun j hj => by rw [e 4 (by decide)]; exact h.2.2.1 j hj, by rw [e0]; exact h.2.2.2⟩
/-- small rows, none above 1, all without a small factor -/
def Rok (M : mM) (R n : Nat) : Prop := Rsm M R n 16 ∧ Rle M R n ∧ ∀ i, i < n → mI M (mR M R i) 2 = 1
theorem Rok.cg (h : Rok M R n) (eR : mR M' R = mR M R) (e : ∀ i, i < n → nv M' (mR M R i + 1) = nv M (mR M R i + 1) ∧ nv M' (mR M R i + 3) = nv M (mR M R i + 3) ∧ mI M' (mR M R i) = mI M (mR M R i)) : Rok M' R n := by
  obtain ⟨h1, h2, h3⟩ := h
  refine ⟨fun i hi => ?_, fun i hi => ?_, fun i hi => ?_⟩
  · rw [eR, (e i hi).1, (e i hi).2.1]; exact h1 i hi
  · rw [eR, (e i hi).1, (e i hi).2.1]; exact h2 i hi
  · rw [eR, (e i hi).2.2]; exact h3 i hi
def Tmv (z : Nat) (M : mM) (R n x : Nat) : Prop := Tpk z x ∨ Trw M R n x
def Imv (z : Nat) (M : mM) (R n x : Nat) : Prop := Ipk z x ∨ Irw M R n x
/-- the move on its way -/
def MvI (L : List Nat) (W : Nat → Nat) (z g a R k b Rb kb cn cc bc : Nat) (M0 : mM) (i : Nat) (M : mM) : Prop := NL L W (Tmv z M0 R cn) (Imv z M0 R cn) True z M0 M ∧ Te L W z g a R k M ∧ Te L W z g b Rb kb M ∧ (mR M R = mR M0 R ∧ mR M Rb = mR M0 Rb) ∧ GTT M g cn cc bc ∧ Rok M Rb cn ∧ Rok M R i
/-- rows of the two tables lie apart -/
def Rsp (M : mM) (R k Rb kb : Nat) : Prop := ∀ i j, i < k → j < kb → Frd (mR M R i) (mR M Rb j)
theorem Rap.pk (h : Rap z f) : ¬ Tpk z (f + 1) ∧ ¬ Tpk z (f + 3) ∧ ¬ Ipk z f := ⟨h.1, h.2.1, fun e => e.elim h.2.2.1 h.2.2.2⟩
theorem Rap.fd (h : Rap z f) (hw : Ipk z w) : Frd f w := by
  obtain ⟨h1, h2, h3, h4⟩ := h
  unfold Tpk T2 at h1 h2
  unfold Frd
  rcases hw with e | e <;> rw [e] <;> omega
/-- a row is written -/
theorem mv_row (h : MvI L W z g a R k b Rb kb cn cc bc M0 i M) (hi : i < cn) (hcn : cn ≤ k) (hcb : cn ≤ kb) (hsp : Rsp M0 R k Rb kb) (q : NL L W (T2 (mR M R i)) (fun x => x = mR M R i) False z M M') (v3 : nv M' (mR M R i + 3) < 2 ^ (30 * 16)) (v1 : nv M' (mR M R i + 1) ≤ nv M' (mR M R i + 3) ∧ 0 < nv M' (mR M R i + 3)) (t2 : mI M' (mR M R i) 2 = 1) : MvI L W z g a R k b Rb kb cn cc bc M0 (i + 1) M' := by
  obtain ⟨hN, hA, hB, ⟨eR, eRb⟩, hG, hb, ha⟩ := h
  obtain ⟨p1, p2, p3, p4⟩ := hA.row hi hcn q
  have p1' : NL L W (Tmv z M0 R cn) (Imv z M0 R cn) True z M M' := p1.mono hA.1.2.1 (fun t ⟨j, hj, ht⟩ => Or.inr ⟨j, hj, by rw [← eR]; exact ht⟩) hN.2.1.1 (fun x ⟨j, hj, hx⟩ => Or.inr ⟨j, hj, by rw [← eR]; exact hx⟩) (fun x hx => by
    have := hN.2.1.2.1 x hx
    exact ⟨Nat.lt_of_lt_of_le this.1 hN.2.2.1.1.1, by rw [hN.kind this.1]; exact this.2⟩) (fun e => e.elim)
  obtain ⟨b1, b2, b3⟩ := hB.nl p1 p2.1.2.2 (fun x e => (hA.irw hcn x e).2)
  refine ⟨hN.trans p1', p2, b1, ⟨by rw [p4, eR], by rw [b3, eRb]⟩, hG.same p3, hb.cg b3 (fun j hj => ?_), ⟨fun j hj => ?_, fun j hj => ?_, fun j hj => ?_⟩⟩
  · have d : Frd (mR M Rb j) (mR M R i) := by rw [eR, eRb]; exact (hsp i j (by omega) (by omega)).sym
    have f := hB.2.2.1.2.2.2.2.2 j (by omega)
    exact ⟨(q.num hB.1.2.1 f.2.1 d.t2.1).2.2, (q.num hB.1.2.1 f.2.2 d.t2.2).2.2, (q.frp hB.1.2.1 f.1).2 d.1⟩
  · rw [p4]
    by_cases c : j = i
    · rw [c]; exact ⟨Int.le_of_lt v1.2, v3, Int.lt_of_le_of_lt v1.1 v3⟩
    · obtain ⟨k1, k2, k3⟩ := hA.keep (j := j) (by omega) (by omega) c q
      rw [k1, k2]; exact ha.1 j (by omega)
  · rw [p4]
    by_cases c : j = i
    · rw [c]; exact v1
    · obtain ⟨k1, k2, k3⟩ := hA.keep (j := j) (by omega) (by omega) c q
      rw [k1, k2]; exact ha.2.1 j (by omega)
  · rw [p4]
    by_cases c : j = i
    · rw [c]; exact t2
    · obtain ⟨k1, k2, k3⟩ := hA.keep (j := j) (by omega) (by omega) c q
      rw [k3]; exact ha.2.2 j (by omega)
/-- a step of the Scales alone -/
theorem mv_pk (h : MvI L W z g a R k b Rb kb cn cc bc M0 i M) (hic : i ≤ cn) (hcn : cn ≤ k) (hcb : cn ≤ kb) (q : NL L W (Tpk z) (Ipk z) True z M M') (sk : SK L M' z) : MvI L W z g a R k b Rb kb cn cc bc M0 i M' := by
  obtain ⟨hN, hA, hB, ⟨eR, eRb⟩, hG, hb, ha⟩ := h
  have q' : NL L W (Tmv z M0 R cn) (Imv z M0 R cn) True z M M' := q.mono hA.1.2.1 (fun t ht => Or.inl ht) hN.2.1.1 (fun x hx => Or.inl hx) (fun x hx => by
    have := hN.2.1.2.1 x hx
    exact ⟨Nat.lt_of_lt_of_le this.1 hN.2.2.1.1.1, by rw [hN.kind this.1]; exact this.2⟩) (fun e => e)
  obtain ⟨a1, a2, a3⟩ := hA.nl q sk (fun x e => (hA.1.2.2.ipk x e).2)
  obtain ⟨b1, b2, b3⟩ := hB.nl q sk (fun x e => (hA.1.2.2.ipk x e).2)
  have kp : ∀ {f : Nat}, FrL L M f → Rap z f → nv M' (f + 1) = nv M (f + 1) ∧ nv M' (f + 3) = nv M (f + 3) ∧ mI M' f = mI M f := fun hf hr => ⟨(q.num hA.1.2.1 hf.2.1 hr.pk.1).2.2, (q.num hA.1.2.1 hf.2.2 hr.pk.2.1).2.2, (q.frp hA.1.2.1 hf.1).2 hr.pk.2.2⟩
  exact ⟨hN.trans q', a1, b1, ⟨by rw [a3, eR], by rw [b3, eRb]⟩, hG.same a2, hb.cg b3 (fun j hj => kp (hB.2.2.1.2.2.2.2.2 j (by omega)) (hB.2.2.2.1 j (by omega))), ha.cg a3 (fun j hj => kp (hA.2.2.1.2.2.2.2.2 j (by omega)) (hA.2.2.2.1 j (by omega)))⟩
theorem tre_pk (hw : Ipk z w) {x : Nat} (hx : Tre z w x) : Tpk z x := by
  rcases hx with u | u
  · exact Or.inl u
  · rcases hw with e | e <;> rw [e] at u
    · exact Or.inr (Or.inr (Or.inr (Or.inl u)))
    · exact Or.inr (Or.inr (Or.inr (Or.inr u)))
theorem pw480 : (2 : Int) ^ 480 = 2 ^ (30 * 16) := by rw [show 30 * 16 = 480 by decide]
/-- the numbers on their way: n9 are those after the move -/
def MvX (g Rb R cn : Nat) (n9 : Nat → Rat) (M0 : mM) (i : Nat) (M : mM) : Prop := (∀ j, j ≤ 9 → mI M (g + j) = mI M0 (g + j)) ∧ (∀ j, j < cn → rwv M Rb j = rwv M0 Rb j) ∧ ∀ j, j < i → rwv M R j = n9 j
theorem mvx_row {n9 : Nat → Rat} (hx : MvX g Rb R cn n9 M0 i M) (h : MvI L W z g a R k b Rb kb cn cc bc M0 i M) (hi : i < cn) (hcn : cn ≤ k) (hcb : cn ≤ kb) (hsp : Rsp M0 R k Rb kb) (q : NL L W (T2 (mR M R i)) (fun x => x = mR M R i) False z M M') (e : rwv M' R i = n9 i) : MvX g Rb R cn n9 M0 (i + 1) M' := by
  obtain ⟨hN, hA, hB, ⟨eR, eRb⟩, hG, hb, ha⟩ := h
  obtain ⟨p1, p2, p3, p4⟩ := hA.row hi hcn q
  obtain ⟨b1, b2, b3⟩ := hB.nl p1 p2.1.2.2 (fun x e => (hA.irw hcn x e).2)
  refine ⟨fun j hj => by rw [p3 j hj, hx.1 j hj], fun j hj => ?_, fun j hj => ?_⟩
  · rw [← hx.2.1 j hj]
    have d : Frd (mR M Rb j) (mR M R i) := by rw [eR, eRb]; exact (hsp i j (by omega) (by omega)).sym
    have f := hB.2.2.1.2.2.2.2.2 j (by omega)
    exact rwv_cg b3 (q.num hB.1.2.1 f.2.1 d.t2.1).2.2 (q.num hB.1.2.1 f.2.2 d.t2.2).2.2
  · by_cases c : j = i
    · rw [c]; exact e
    · obtain ⟨k1, k2, k3⟩ := hA.keep (j := j) (by omega) (by omega) c q
      rw [← hx.2.2 j (by omega)]
      exact rwv_cg p4 k1 k2
theorem mvx_pk {n9 : Nat → Rat} (hx : MvX g Rb R cn n9 M0 i M) (h : MvI L W z g a R k b Rb kb cn cc bc M0 i M) (hic : i ≤ cn) (hcn : cn ≤ k) (hcb : cn ≤ kb) (q : NL L W (Tpk z) (Ipk z) True z M M') (sk : SK L M' z) : MvX g Rb R cn n9 M0 i M' := by
  obtain ⟨hN, hA, hB, ⟨eR, eRb⟩, hG, hb, ha⟩ := h
  obtain ⟨a1, a2, a3⟩ := hA.nl q sk (fun x e => (hA.1.2.2.ipk x e).2)
  obtain ⟨b1, b2, b3⟩ := hB.nl q sk (fun x e => (hA.1.2.2.ipk x e).2)
  have kp : ∀ {f : Nat}, FrL L M f → Rap z f → nv M' (f + 1) = nv M (f + 1) ∧ nv M' (f + 3) = nv M (f + 3) := fun hf hr => ⟨(q.num hA.1.2.1 hf.2.1 hr.pk.1).2.2, (q.num hA.1.2.1 hf.2.2 hr.pk.2.1).2.2⟩
  refine ⟨fun j hj => by rw [a2 j hj, hx.1 j hj], fun j hj => ?_, fun j hj => ?_⟩
  · rw [← hx.2.1 j hj]
    obtain ⟨k1, k2⟩ := kp (hB.2.2.1.2.2.2.2.2 j (by omega)) (hB.2.2.2.1 j (by omega))
    exact rwv_cg b3 k1 k2
  · rw [← hx.2.2 j hj]
    obtain ⟨k1, k2⟩ := kp (hA.2.2.1.2.2.2.2.2 j (by omega)) (hA.2.2.2.1 j (by omega))
    exact rwv_cg a3 k1 k2
/-- n9 are the numbers after one more move -/
def nxH (M : mM) (g Rb cn : Nat) (n9 : Nat → Rat) : Prop := ∀ j, j < cn → (mI M (g + 4) j = mI M (g + 4) (j + 1) → n9 j = rwv M Rb j) ∧ ∀ x y : Nat, mI M (g + 4) j = ((x : Nat) : Int) → mI M (g + 4) (j + 1) = ((y : Nat) : Int) → x < y → n9 j = bst9 (mI M (g + 2) j = 1) (fun i => wr9 (rwv M Rb) (cmm M g (x + i))) (y - 1 - x)
theorem nxH.same {n9 : Nat → Rat} (h : nxH M g Rb cn n9) (hG : GTT M g cn cc bc) (e : ∀ j, j ≤ 9 → mI M' (g + j) = mI M (g + j)) (ev : ∀ j, j < cn → rwv M' Rb j = rwv M Rb j) : nxH M' g Rb cn n9 := fun j hj => by
  refine ⟨fun u => by rw [ev j hj]; exact (h j hj).1 (by rw [← e 4 (by decide)]; exact u), fun x y u1 u2 u3 => ?_⟩
  rw [e 4 (by decide)] at u1 u2
  rw [(h j hj).2 x y u1 u2 u3, e 2 (by decide)]
  refine bst_cg _ (fun i hi => ?_)
  obtain ⟨x', y', g1, g2, g3, g4⟩ := hG.2.2.1 j hj
  rw [cmm_same e]
  exact wr_cg (fun b hb => (ev _ (cmm_lt (hG.2.1 (x + i) (by omega)) b hb)).symm)
/-- rows that are right fit -/
theorem Rok.fit (h : Rok M R n) (hi : i < n) (c : 0 ≤ nv M (mR M R i + 1)) : ft9 (rwv M R i) := by
  obtain ⟨a1, a2, a3⟩ := h.1 i hi
  obtain ⟨b1, b2⟩ := h.2.1 i hi
  have e := rwv_mul b2
  rw [← pw480] at a2 a3
  exact ⟨nv M (mR M R i + 1), nv M (mR M R i + 3), ⟨c, b2⟩, ⟨a3, a2⟩, e.symm⟩
/-- what a move leaves behind -/
def movQ (L : List Nat) (W : Nat → Nat) (z g a R k b Rb kb cn cc bc : Nat) (n9 : Nat → Rat) (M0 : mM) (x : Int) (M' : mM) : Prop := (x = 0 ∨ x = 1) ∧ ∃ i, i ≤ cn ∧ MvI L W z g a R k b Rb kb cn cc bc M0 i M' ∧ (x ≠ 0 → i = cn) ∧ MvX g Rb R cn n9 M0 i M' ∧ (x = 0 → i < cn ∧ ¬ ft9 (n9 i))
theorem s_mv11 {n9 : Nat → Rat} (hn : nxH M0 g Rb cn n9) (hcn : cn ≤ k) (hcb : cn ≤ kb) (hk : k ≤ 512) (hkb : kb ≤ 512) (hsp : Rsp M0 R k Rb kb) (hW : ∀ x, Tpk z x → B ≤ W x) (b1 : 300 ≤ B) (hB : B ≤ 14000) (hWr : ∀ i, i < k → 16 ≤ W (mR M0 R i + 1) ∧ 16 ≤ W (mR M0 R i + 3)) : ∀ (t i : Nat) (M : mM), cn ≤ i + t → i ≤ cn → MvI L W z g a R k b Rb kb cn cc bc M0 i M → MvX g Rb R cn n9 M0 i M → h_Sc_move_11 G (d + 7) z g b a i M (movQ L W z g a R k b Rb kb cn cc bc n9 M0) := by
  intro t
  induction t with
  | zero =>
    intro i M h1 h2 hI hX
    have ei : i = cn := by omega
    subst ei
    obtain ⟨hN, hA, hB', -, hG, -⟩ := id hI
    refine k_Sc_move_11 hN.ok ⟨by omega, by omega⟩ ?_
    rw [hG.2.2.2]
    exact ⟨hA.2.1.1.1, fun _ => ⟨Or.inr rfl, i, Nat.le_refl _, hI, fun _ => rfl, hX, fun u => absurd u (by decide)⟩, fun u => absurd (Int.le_refl _) u⟩
  | succ t ih =>
    intro i M h1 h2 hI hX
    by_cases ei : i = cn
    · exact ih i M (by omega) h2 hI hX
    have hi : i < cn := by omega
    obtain ⟨hN, hA, hBt, ⟨eR, eRb⟩, hG, hb, ha⟩ := id hI
    obtain ⟨x, y, x1, y1, xy, yc⟩ := hG.2.2.1 i hi
    obtain ⟨⟨hO, hF, hS⟩, ⟨⟨g1, ⟨r2, r4, -⟩, kk, ⟨n2, n4, -⟩⟩, -⟩, ⟨t1, t2, t3, t4, -, t6⟩, ap, -⟩ := id hA
    obtain ⟨-, -, ⟨s1, s2, s3, s4, -, s6⟩, apb, -⟩ := id hBt
    have fa := t6 i (by omega)
    have fb := s6 i (by omega)
    have wr := hWr i (by omega)
    rw [← eR] at wr
    have dab : Frd (mR M R i) (mR M Rb i) := by rw [eR, eRb]; exact hsp i i (by omega) (by omega)
    obtain ⟨hc1, hc2, hc3⟩ := hG.1
    refine k_Sc_move_11 hN.ok ⟨by omega, by omega⟩ ?_
    rw [hG.2.2.2, r4, n4, Int.toNat_natCast, show Int.toNat ((i : Int) + 1) = i + 1 by omega, x1, y1, t2, t4, s2, s4, r2, n2, show ((i : Int) + 1) = ((i + 1 : Nat) : Int) by omega]
    refine ⟨g1, fun u => absurd u (by omega), fun _ => ⟨kk 4 (by decide) (by decide), ⟨by omega, by omega⟩, ⟨by omega, by omega⟩, fun ec => ⟨t1, t3, ⟨by omega, by omega⟩, s1, s3, ⟨by omega, by omega⟩, fa.1.1, ?_⟩, fun ne => ⟨kk 2 (by decide) (by decide), ⟨by omega, by omega⟩, fun v32 e32 => ⟨hS.1.1, ?_⟩⟩⟩⟩
    · obtain ⟨sb1, sb2, sb3⟩ := hb.1 i hi
      have z1 := hF.szv fb.2.1 sb3
      have z3 := hF.szv fb.2.2 sb2
      refine (f_Fr_put1 (d := d + 5) hO hF fa fb dab.1 dab.2.1 dab.2.2 hS.z9 (by omega) (by omega)).mono (fun M26 q => ?_)
      obtain ⟨q1, q2, q3, q4⟩ := q
      have p4 := (hA.row hi hcn q1).2.2.2
      have er : rwv M26 R i = n9 i := by
        rw [(hn i hi).1 (by rw [← hX.1 4 (by decide), x1, y1, ec]), ← hX.2.1 i hi]
        unfold rwv
        rw [p4, q2, q3]
      refine ⟨q1.ok, ih (i + 1) M26 (by omega) (by omega) (mv_row hI hi hcn hcb hsp q1 (by rw [q3]; exact sb2) (by rw [q2, q3]; exact hb.2.1 i hi) (by rw [q4]; exact hb.2.2 i hi)) (mvx_row hX hI hi hcn hcb hsp q1 er)⟩
    · have v01 : i32 v32 := by rw [e32]; split <;> exact ⟨by decide, by decide⟩
      refine (f_pickX (d := d + 1) (S := 16) (B := B) v01 (hBt.pe hcb) hb.1 hW (by omega) (by omega) (show x < y by omega) (by omega) hc1 hc3 (fun c _ hc => hG.2.1 c (by omega))).mono (fun x39 M38 q => ?_)
      obtain ⟨⟨q1, q2, q3, q4, q5⟩, q6⟩ := q
      have q7 : fq9 M38 (mR M38 z 9) = n9 i := by
        rw [q6 hb.2.1, (hn i hi).2 x y (by rw [← hX.1 4 (by decide)]; exact x1) (by rw [← hX.1 4 (by decide)]; exact y1) (by omega)]
        unfold pkv
        have ep : (v32 ≠ 0) = (mI M0 (g + 2) i = 1) := propext ⟨fun w => by
          rw [← hX.1 2 (by decide)]
          refine Classical.byContradiction (fun w2 => w ?_)
          rw [e32, if_neg w2], fun w => by
          rw [← hX.1 2 (by decide)] at w
          rw [e32, if_pos w]
          decide⟩
        rw [ep]
        refine bst_cg _ (fun j hj => ?_)
        rw [cmm_same hX.1]
        have cm := hG.2.1 (x + j) (by omega)
        have cm0 : cmdG M0 g cn bc (x + j) := cm.same (fun j hj => (hX.1 j hj).symm)
        exact wr_cg (fun b hb => hX.2.1 _ (cmm_lt cm0 b hb))
      have I38 := mv_pk hI (by omega) hcn hcb q1 q2
      have X38 := mvx_pk hX hI (by omega) hcn hcb q1 q2
      obtain ⟨i9, i10, -⟩ := q2.bt
      have fw := q2.frl i9
      have F38 := q1.nf
      have z1 := F38.szv fw.2.1 q3.2.1
      have z3 := F38.szv fw.2.2 q3.1.2
      have nt4 : ¬ T4 z (mR M38 z 9 + 1) ∧ ¬ T4 z (mR M38 z 9 + 3) := by
        unfold T4
        rcases i9 with e | e <;> rw [e] <;> omega
      refine ⟨⟨by omega, by omega⟩, q1.ok, q2.1.1, (f_fits (d := d + 1) (s := 131) (t := mI M38 (mR M38 z 9) 2) ⟨q1.ok, F38, q2, fw⟩ nt4 rfl ⟨q3.2.2.1.1, by have := q3.2.2.1.2; omega⟩ (by omega) (by omega) (by decide) (fun x hx => by have := hW x (tre_pk i9 hx); omega)).mono (fun x43 M42 p => ?_)⟩
      obtain ⟨p1, p2, p3, p4, p5, p6, p7⟩ := p
      have sk42 := p1.sk F38 q2
      have p1' : NL L W (Tpk z) (Ipk z) True z M38 M42 := p1.mono F38 (fun t ht => tre_pk i9 ht) q2.tpk (fun x e => by rw [e]; exact i9) q2.ipk (fun e => e.elim)
      have I42 := mv_pk I38 (by omega) hcn hcb p1' sk42
      have X42 := mvx_pk X38 I38 (by omega) hcn hcb p1' sk42
      have V38 := (q3.2.2.2 hb.2.1).2
      have rz : mR M42 z = mR M38 z := (p1.2.2.1.2 z q2.1.2).2.2.2.1 (fun u => u.elim (fun u => (F38.nz q2.1.1 (q2.tpk z (tre_pk i9 u))).1 rfl) (fun u => u.2))
      refine ⟨m_b32 p4, p1.ok, fun e => ⟨Or.inl rfl, i, by omega, I42, fun u => absurd rfl u, X42, fun _ => ⟨hi, by rw [← q7]; exact (p7 V38).2 e⟩⟩, fun x0 => ?_⟩
      obtain ⟨-, hA2, -, ⟨eR2, -⟩, -⟩ := id I42
      obtain ⟨⟨o2, F2, S2⟩, -, ⟨u1, u2, u3, u4, -, u6⟩, ap2, -⟩ := id hA2
      have fa2 := u6 i (by omega)
      have fw2 := S2.frl i9
      have dw := (ap2 i (by omega)).fd i9
      have wr2 := hWr i (by omega)
      rw [← eR2] at wr2
      have b3 := p5 x0
      rw [pw480] at b3
      have b1' := p6 (q3.2.2.2 hb.2.1).1
      have b0' := p3 (q3.2.2.2 hb.2.1).2
      have y1 := F2.szv fw2.2.1 (Int.lt_of_le_of_lt b1' b3)
      have y3 := F2.szv fw2.2.2 b3
      rw [u2, u4, rz]
      refine ⟨u1, u3, ⟨by omega, by omega⟩, S2.1.1, fa2.1.1, (f_Fr_put1 (d := d + 5) o2 F2 fa2 fw2 dw.1 dw.2.1 dw.2.2 S2.z9 (by omega) (by omega)).mono (fun M52 q => ?_)⟩
      obtain ⟨j1, j2, j3, j4⟩ := q
      have r4 := (hA2.row hi hcn j1).2.2.2
      have er : rwv M52 R i = n9 i := by
        rw [← q7]
        unfold rwv fq9
        rw [r4, j2, j3]
        exact fv_of b0' (ic_ne (Int.mul_pos (show 0 < mI M38 (mR M38 z 9) 2 by have := q3.2.2.1.1; omega) V38)) (p7 V38).1
      exact ⟨j1.ok, ih (i + 1) M52 (by omega) (by omega) (mv_row I42 hi hcn hcb hsp j1 (by rw [j3]; exact b3) (by rw [j2, j3]; exact ⟨b1', b0'⟩) (by rw [j4]; exact p2)) (mvx_row X42 I42 hi hcn hcb hsp j1 er)⟩
/-- what a move leaves behind, growth and all -/
def moveQ (L : List Nat) (W : Nat → Nat) (z g a R k b Rb kb cn cc bc : Nat) (n9 : Nat → Rat) (M : mM) (x : Int) (M' : mM) : Prop := ∃ L' R' k' M1, Gw L W a M L' M1 ∧ Te L' W z g a R' k' M1 ∧ ((M1 = M ∧ L' = L ∧ R' = R ∧ k' = k) ∨ rvG L M R k L' M1 R' k') ∧ (cn ≤ k' ∧ k ≤ k' ∧ k' ≤ 512) ∧ (∀ i, i < k → mR M1 R' i = mR M R i) ∧ (∀ i, k ≤ i → i < k' → mR M1 R' i = mZ M + 1 + 5 * (i - k) ∧ mI M1 (mZ M + 1 + 5 * (i - k)) 2 = 1) ∧ movQ L' W z g a R' k' b Rb kb cn cc bc n9 M1 x M' ∧ ∀ j, j ≤ 9 → mI M1 (g + j) = mI M (g + j)
theorem f_move {n9 : Nat → Rat} (hn : nxH M g Rb cn n9) (hA : Te L W z g a R k M) (hB : Te L W z g b Rb kb M) (ab : b ≠ a) (hk : k ≤ 512) (hkb : kb ≤ 512) (hcb : cn ≤ kb) (hG : GTT M g cn cc bc) (hb : Rok M Rb cn) (hsp : Rsp M R k Rb kb) (hW : ∀ x, Tpk z x → B ≤ W x) (b1 : 300 ≤ B) (hB' : B ≤ 14000) (hWn : ∀ x, mZ M < x → 16 ≤ W x ∧ W x ≤ 20000) (hWr : ∀ i, i < k → 16 ≤ W (mR M R i + 1) ∧ 16 ≤ W (mR M R i + 3)) : Ci G y_Sc_move (d + 8) [vr z, vr g, vr b, vr a] M (moveQ L W z g a R k b Rb kb cn cc bc n9 M) := by
  refine k_Sc_move hA.1.1 ?_
  rw [hG.2.2.2]
  refine ⟨hA.2.1.1.1, hA.2.2.1.1, (f_Fs_reserve (d := d + 4) hA.1.1 hA.1.2.1 hA.2.2.1 hk hG.1.1 (fun x hx => by have := hWn x hx; omega)).mono (fun M3 q => ?_)⟩
  obtain ⟨L', R', k', gw, te, c, p1, p2, p3⟩ := rv_te hA q
  obtain ⟨teb, eRb⟩ := gw.te hB ab
  have k5 : k' ≤ 512 := by
    rcases p3 with ⟨-, -, -, e⟩ | ⟨-, e, -⟩ <;> omega
  have hm : ∀ {Q Q' : Int → mM → Prop}, h_Sc_move_11 G (d + 7) z g b a 0 M3 Q → (∀ x M', Q x M' → Q' x M') → h_Sc_move_11 G (d + 7) z g b a 0 M3 Q' := fun h hq => by
    unfold h_Sc_move_11 at h ⊢
    exact mWm.mono h (fun r M' k => by
      obtain ⟨x, e, t⟩ := k
      exact ⟨x, e, hq x M' t⟩)
  have sp : Rsp M3 R' k' Rb kb := fun i j hi hj => by
    rw [eRb]
    by_cases c1 : i < k
    · rw [p1 i c1]; exact hsp i j c1 hj
    · rw [(p2 i (by omega) hi).1]
      have := (hB.1.2.1.lt (hB.2.2.1.2.2.2.2.2 j hj).2.2).1
      unfold Frd
      omega
  have wr : ∀ i, i < k' → 16 ≤ W (mR M3 R' i + 1) ∧ 16 ≤ W (mR M3 R' i + 3) := fun i hi => by
    by_cases c1 : i < k
    · rw [p1 i c1]; exact hWr i c1
    · rw [(p2 i (by omega) hi).1]
      exact ⟨(hWn _ (by omega)).1, (hWn _ (by omega)).1⟩
  have rb3 : Rok M3 Rb cn := hb.cg eRb (fun i hi => by
    have f := hB.2.2.1.2.2.2.2.2 i (by omega)
    exact ⟨(gw.rf f.2.1).2.1, (gw.rf f.2.2).2.1, (gw.frl f).2⟩)
  have ev3 : ∀ j, j < cn → rwv M3 Rb j = rwv M Rb j := fun j hj => by
    have f := hB.2.2.1.2.2.2.2.2 j (by omega)
    exact rwv_cg eRb (gw.rf f.2.1).2.1 (gw.rf f.2.2).2.1
  have hn3 := hn.same hG (gw.gk hA.2.1).2 ev3
  have tL : ∀ t, Tmv z M3 R' cn t → t ∈ L' := fun t ht => ht.elim (te.1.2.2.tpk t) (te.trw c.1 t)
  have iL : ∀ x, Imv z M3 R' cn x → x < mZ M3 ∧ mK M3 x = 11 := fun x hx => hx.elim (te.1.2.2.ipk x) (te.irw c.1 x)
  refine ⟨gw.1, hm (s_mv11 (d := d) (B := B) hn3 c.1 hcb k5 hkb sp hW b1 hB' wr cn 0 M3 (by omega) (by omega) ⟨NL.refl gw.1 gw.2.1.2 tL iL te.1.2.2.z9, te, teb, ⟨rfl, rfl⟩, hG.same (gw.gk hA.2.1).2, rb3, fun i hi => absurd hi (by omega), fun i hi => absurd hi (by omega), fun i hi => absurd hi (by omega)⟩ ⟨fun _ _ => rfl, fun _ _ => rfl, fun j hj => absurd hj (by omega)⟩) (fun x M' q' => ⟨L', R', k', M3, gw, te, p3, ⟨c.1, c.2, k5⟩, p1, p2, q', (gw.gk hA.2.1).2⟩)⟩
end NBH
end
