/-! The Scales: the best command is picked. -/
section NBA
variable {G : mG} {d b c z n m w S x y B u g a R cn bc f s i to : Nat} {M M0 M' M1 M2 M3 : mM} {L : List Nat} {W : Nat → Nat} {T T' I I' : Nat → Prop} {r : Prop} {sh t : Int}
/-- all numbers of the Scales -/
def Tpk (z x : Nat) : Prop := T4 z x ∨ Tor z x ∨ (x = z + 14 ∨ x = z + 16) ∨ T2 (z + 18) x ∨ T2 (z + 23) x
def Ipk (z x : Nat) : Prop := x = z + 18 ∨ x = z + 23
/-- a row lies apart -/
def Rap (z f : Nat) : Prop := ¬ Tpk z (f + 1) ∧ ¬ Tpk z (f + 3) ∧ f ≠ z + 18 ∧ f ≠ z + 23
theorem Rap.dw (h : Rap z f) (hw : Ipk z w) : Dwg z w f := by
  obtain ⟨h1, h2, h3, h4⟩ := h
  have tw : ∀ x, Twg z w x → Tpk z x := by
    intro x hx
    rcases hx with u | u | u | u | u | u
    · exact Or.inl u
    · exact Or.inr (Or.inl (Or.inr u))
    · exact Or.inr (Or.inr (Or.inl (Or.inl u)))
    · exact Or.inr (Or.inr (Or.inl (Or.inr u)))
    · rcases hw with e | e <;> rw [e] at u
      · exact Or.inr (Or.inr (Or.inr (Or.inl (Or.inl u))))
      · exact Or.inr (Or.inr (Or.inr (Or.inr (Or.inl u))))
    · rcases hw with e | e <;> rw [e] at u
      · exact Or.inr (Or.inr (Or.inr (Or.inl (Or.inr u))))
      · exact Or.inr (Or.inr (Or.inr (Or.inr (Or.inr u))))
  refine ⟨?_, fun u => h1 (tw _ u), fun u => h2 (tw _ u), ?_⟩
  · unfold T4
    rcases hw with e | e <;> subst e <;> omega
  · rcases hw with e | e
    · rw [e]; exact h3
    · rw [e]; exact h4
theorem tw_pk (hw : Ipk z w) {x : Nat} (hx : Twg z w x) : Tpk z x := by
  rcases hx with u | u | u | u | u | u
  · exact Or.inl u
  · exact Or.inr (Or.inl (Or.inr u))
  · exact Or.inr (Or.inr (Or.inl (Or.inl u)))
  · exact Or.inr (Or.inr (Or.inl (Or.inr u)))
  · rcases hw with e | e <;> rw [e] at u
    · exact Or.inr (Or.inr (Or.inr (Or.inl (Or.inl u))))
    · exact Or.inr (Or.inr (Or.inr (Or.inr (Or.inl u))))
  · rcases hw with e | e <;> rw [e] at u
    · exact Or.inr (Or.inr (Or.inr (Or.inl (Or.inr u))))
    · exact Or.inr (Or.inr (Or.inr (Or.inr (Or.inr u))))
theorem SK.tpk (h : SK L M z) : ∀ t, Tpk z t → t ∈ L := by
  intro t ht
  obtain ⟨-, -, -, -, -, ⟨h1, h2, h3, h4, h5, h6, h7, h8⟩, ⟨h9, h10, h11, h12⟩⟩ := id h
  rcases ht with u | (u | u) | (u | u) | (u | u) | (u | u)
  · exact h.t4 t u
  · rw [u]; exact h5
  · rw [u]; exact h6
  · rw [u]; exact h7
  · rw [u]; exact h8
  · rw [u]; exact h9
  · rw [u]; exact h10
  · rw [u]; exact h11
  · rw [u]; exact h12
theorem SK.ipk (h : SK L M z) : ∀ x, Ipk z x → x < mZ M ∧ mK M x = 11 := by
  intro x hx
  obtain ⟨-, -, -, -, ⟨h1, h2⟩, -⟩ := h
  rcases hx with u | u
  · rw [u]; exact ⟨h1.2.2, h1.1⟩
  · rw [u]; exact ⟨h2.2.2, h2.1⟩
theorem SK.frl (h : SK L M z) (hw : Ipk z w) : FrL L M w := by
  obtain ⟨-, -, -, -, ⟨h1, h2⟩, -, ⟨h9, h10, h11, h12⟩⟩ := h
  rcases hw with u | u
  · rw [u]; exact ⟨h1, h9, h10⟩
  · rw [u]; exact ⟨h2, h11, h12⟩
/-- where picking works -/
def Pe (L : List Nat) (W : Nat → Nat) (z g a R cn : Nat) (M : mM) : Prop := (mOk M ∧ NF L W M ∧ SK L M z) ∧ (GK9 M g ∧ ∀ i, i ≤ 9 → Oc L M (g + i)) ∧ Rws L M a R cn ∧ ∀ i, i < cn → Rap z (mR M R i)
theorem Pe.we (h : Pe L W z g a R cn M) (hw : Ipk z w) : We L W z w g a R cn M := by
  obtain ⟨⟨h1, h2, h3⟩, h4, h5, h6⟩ := h
  exact ⟨⟨h1, h2, h3, h3.frl hw⟩, h4, h5, fun i hi => (h6 i hi).dw hw⟩
theorem Pe.nl (h : Pe L W z g a R cn M) (k : NL L W (Tpk z) (Ipk z) r z M M') (hS : SK L M' z) : Pe L W z g a R cn M' ∧ (∀ i, i ≤ 9 → mI M' (g + i) = mI M (g + i)) ∧ mR M' R = mR M R ∧ ∀ i, i < cn → nv M' (mR M R i + 1) = nv M (mR M R i + 1) ∧ nv M' (mR M R i + 3) = nv M (mR M R i + 3) := by
  obtain ⟨t1, t2, t3, t4, t5⟩ := (h.we (w := z + 18) (Or.inl rfl)).tb k (fun x e => (h.1.2.2.ipk x e).2)
  obtain ⟨⟨h1, h2, h3⟩, h4, h5, h6⟩ := h
  refine ⟨⟨⟨k.ok, k.nf, hS⟩, ⟨t1, t2⟩, t4, fun i hi => by rw [t5]; exact h6 i hi⟩, t3, t5, fun i hi => ?_⟩
  have hf := h5.2.2.2.2.2 i hi
  exact ⟨(k.num h2 hf.2.1 (h6 i hi).1).2.2, (k.num h2 hf.2.2 (h6 i hi).2.1).2.2⟩
/-- a worth that was weighed -/
def Bst (M0 : mM) (R cn S : Nat) (M : mM) (b : Nat) : Prop := (0 ≤ nv M (b + 3) ∧ nv M (b + 3) < 2 ^ (30 * (8 * S + 1))) ∧ nv M (b + 1) < 2 ^ (30 * (8 * S + 3)) ∧ (1 ≤ mI M b 2 ∧ mI M b 2 < 1000000000) ∧ (Rle M0 R cn → nv M (b + 1) ≤ mI M b 2 * nv M (b + 3) ∧ 0 < nv M (b + 3))
theorem Bst.cg (h : Bst M0 R cn S M b) (e1 : nv M' (b + 1) = nv M (b + 1)) (e3 : nv M' (b + 3) = nv M (b + 3)) (e2 : mI M' b = mI M b) : Bst M0 R cn S M' b := by
  unfold Bst
  rw [e1, e3, e2]
  exact h
/-- what picking leaves behind -/
def pkQ (L : List Nat) (W : Nat → Nat) (z R cn S fr to : Nat) (M : mM) (x : Int) (M' : mM) : Prop := NL L W (Tpk z) (Ipk z) True z M M' ∧ SK L M' z ∧ Bst M R cn S M' (mR M' z 9) ∧ ((fr : Int) ≤ x ∧ x < to)
/-- the two worths -/
theorem SK.bt (h : SK L M z) : Ipk z (mR M z 9) ∧ Ipk z (mR M z 10) ∧ mR M z 9 ≠ mR M z 10 := by
  obtain ⟨-, -, h3, -⟩ := h
  unfold Ipk
  omega
theorem wg_pk (hE : Pe L W z g a R cn M) (hw : Ipk z w) {mu : Nat} (hm : 1 ≤ mu ∧ mu < 1000000000) (q : wgQ L W z w R cn S mu M M') : NL L W (Tpk z) (Ipk z) True z M M' ∧ SK L M' z ∧ Bst M R cn S M' w := by
  obtain ⟨n, u, v, tt, le⟩ := q
  refine ⟨n.mono hE.1.2.1 (fun t ht => tw_pk hw ht) hE.1.2.2.tpk (fun x e => by rw [e]; exact hw) hE.1.2.2.ipk (fun e => e.elim), n.sk hE.1.2.1 hE.1.2.2, u, v, by rw [tt]; omega, fun l => by rw [tt]; exact le l⟩
theorem s_pkStep (hE : Pe L W z g a R cn M) (hrs : Rsm M R cn S) (hW : ∀ x, Tpk z x → B ≤ W x) (b1 : 16 * S + 10 ≤ B) (hB : B ≤ 16000) (hb : Bst M0 R cn S M (mR M z 9)) (hc : c < 4096) (hcn : cn ≤ 512) (hbc : bc ≤ 4096) (hcm : cmdG M g cn bc c) (hle : Rle M0 R cn → Rle M R cn) {v9 : Rat} (hv9 : BsV M0 R cn M (mR M z 9) v9) {Q : Int → mM → Prop}
    (hQ : ∀ x M', NL L W (Tpk z) (Ipk z) True z M M' → SK L M' z → (mR M' z = mR M z) → Bst M0 R cn S M' (mR M z 9) → Bst M0 R cn S M' (mR M z 10) → i32 x → BsV M0 R cn M' (mR M z 9) v9 → BsV M0 R cn M' (mR M z 10) (wr9 (rwv M R) (cmm M g c)) → (Rle M0 R cn → orR (wr9 (rwv M R) (cmm M g c)) v9 x) → Q x M') : mK M z = 9 ∧ Cv G y_Sc_weigh (d + 5) [vr z, vr g, vi c, vr a, vr (mR M z 10)] M (fun M8 => mOk M8 ∧ (mK M8 z = 9 ∧ Ci G y_Sc_order (d + 5) [vr z, vr (mR M8 z 10), vr (mR M8 z 9)] M8 (fun x13 M12 => i32 x13 ∧ mOk M12 ∧ Q x13 M12))) := by
  obtain ⟨i9, i10, ne⟩ := hE.1.2.2.bt
  have hF := hE.1.2.1
  have hS := hE.1.2.2
  obtain ⟨mu, hm, emu, k⟩ := f_weighX (G := G) (d := d) (B := B) (S := S) (hE.we i10) hrs (fun x hx => hW x (tw_pk i10 hx)) (by omega) hB hc hcn hbc hcm
  refine ⟨hS.1.1, k.mono (fun M8 qv => ?_)⟩
  obtain ⟨q, qv⟩ := qv
  have bv8 : BsV M R cn M8 (mR M z 10) (wr9 (rwv M R) (cmm M g c)) := by
    have := wv_bs qv (show (0 : Int) < ((mu : Nat) : Int) by omega) q.2.2.2.1 (fun l => (q.2.2.2.2 l).2)
    unfold wr9
    rw [emu]
    exact this
  have rz : mR M8 z = mR M z := (q.1.2.2.1.2 z hS.1.2).2.2.2.1 (fun u => u.elim (fun u => (hF.nz hS.1.1 (hS.tpk z (tw_pk i10 u))).1 rfl) (fun u => u.2))
  have q0 := q
  obtain ⟨n1, sk8, bt8⟩ := wg_pk hE i10 hm q
  have bt8' : Bst M0 R cn S M8 (mR M z 10) := ⟨bt8.1, bt8.2.1, bt8.2.2.1, fun l => bt8.2.2.2 (hle l)⟩
  have F8 := n1.nf
  have f9 := hS.frl i9
  have nt : ¬ Twg z (mR M z 10) (mR M z 9 + 1) ∧ ¬ Twg z (mR M z 10) (mR M z 9 + 3) := by
    rcases hS.2.2.1 with ⟨e1, e2⟩ | ⟨e1, e2⟩ <;> rw [e1, e2] <;> unfold Twg T4 <;> omega
  have bb8 : Bst M0 R cn S M8 (mR M z 9) := hb.cg (q0.1.num hF f9.2.1 nt.1).2.2 (q0.1.num hF f9.2.2 nt.2).2.2 ((q0.1.frp hF f9.1).2 ne)
  have bw8 : BsV M0 R cn M8 (mR M z 9) v9 := hv9.cg (q0.1.num hF f9.2.1 nt.1).2.2 (q0.1.num hF f9.2.2 nt.2).2.2 ((q0.1.frp hF f9.1).2 ne)
  rw [rz]
  have f9' := sk8.frl i9
  have f10' := sk8.frl i10
  have os : ∀ {b : Nat}, FrL L M8 b → Bst M0 R cn S M8 b → Osz M8 b (8 * S + 3) := fun hb hB => ⟨F8.szv hb.2.1 hB.2.1, F8.szv hb.2.2 (Int.lt_of_lt_of_le hB.1.2 (p30m (by omega))), hB.2.2.1.1, by have := hB.2.2.1.2; omega⟩
  have ot : ∀ {b : Nat}, Ipk z b → ¬ Tor z (b + 1) ∧ ¬ Tor z (b + 3) := fun hb => by
    unfold Tor
    rcases hb with e | e <;> subst e <;> omega
  refine ⟨n1.ok, sk8.1.1, (f_Sc_orderX (d := d) (s := 8 * S + 3) ⟨n1.ok, F8, sk8, f10', f9'⟩ (os f10' bt8') (os f9' bb8) (ot i10) (ot i9) (by have := hW _ (Or.inr (Or.inl (Or.inl rfl))); omega) (by have := hW _ (Or.inr (Or.inl (Or.inr rfl))); omega)).mono (fun x M12 k2 => ?_)⟩
  obtain ⟨n2, xx, xo⟩ := k2
  have xi : i32 x := by rcases xx with e | e | e <;> rw [e] <;> exact ⟨by decide, by decide⟩
  have n2' : NL L W (Tpk z) (Ipk z) True z M8 M12 := n2.mono F8 (fun t ht => Or.inr (Or.inl ht)) hS.tpk (fun _ e => e.elim) sk8.ipk (fun e => e.elim)
  have sk12 := n2.sk F8 sk8
  have rz2 : mR M12 z = mR M8 z := (n2.2.2.1.2 z sk8.1.2).2.2.2.1 (fun u => u.elim (fun u => (F8.nz sk8.1.1 (hS.tpk z (Or.inr (Or.inl u)))).1 rfl) (fun u => u.2))
  refine ⟨xi, n2.ok, hQ x M12 (n1.trans n2') sk12 (by rw [rz2, rz]) ?_ ?_ xi ?_ ?_ (fun l => ?_)⟩
  · exact bb8.cg (n2.num F8 f9'.2.1 (ot i9).1).2.2 (n2.num F8 f9'.2.2 (ot i9).2).2.2 ((n2.frp F8 f9'.1).2 (fun e => e))
  · exact bt8'.cg (n2.num F8 f10'.2.1 (ot i10).1).2.2 (n2.num F8 f10'.2.2 (ot i10).2).2.2 ((n2.frp F8 f10'.1).2 (fun e => e))
  · exact bw8.cg (n2.num F8 f9'.2.1 (ot i9).1).2.2 (n2.num F8 f9'.2.2 (ot i9).2).2.2 ((n2.frp F8 f9'.1).2 (fun e => e))
  · exact BsV.cg (fun l => bv8 (hle l)) (n2.num F8 f10'.2.1 (ot i10).1).2.2 (n2.num F8 f10'.2.2 (ot i10).2).2.2 ((n2.frp F8 f10'.1).2 (fun e => e))
  · rw [← bv8 (hle l), ← bw8 l]
    exact xo (bt8'.2.2.2 l).2 (bb8.2.2.2 l).2
end NBA
