/-! The Scales: fractions, other cells, an order of two fractions. -/
section NAT
variable {G : mG} {d a b c z n m w f f' S x : Nat} {M M' M1 M2 M3 : mM} {L : List Nat} {W : Nat → Nat} {T T' I I' : Nat → Prop} {r r' : Prop} {u0 v0 : Int}
/-- a cell that is neither a number nor a number's limbs -/
def Oc (L : List Nat) (M : mM) (x : Nat) : Prop := x < mZ M ∧ x ∉ L ∧ ∀ a, a ∈ L → mR M a 0 ≠ x
theorem NL.oc (h : NL L W T I r z M M') (hF : NF L W M) (hx : Oc L M x) : Oc L M' x := by
  refine ⟨Nat.lt_of_lt_of_le hx.1 h.2.2.1.1.1, hx.2.1, fun a ha u => ?_⟩
  by_cases c : T a
  · rcases h.2.2.2.1 a c with q | q
    · exact hx.2.2 a ha (by rw [← q]; exact u)
    · have := hx.1
      omega
  · rw [(h.num hF ha c).1] at u
    exact hx.2.2 a ha u
theorem NL.oth (h : NL L W T I r z M M') (hx : Oc L M x) (hz : x ≠ z) : mK M' x = mK M x ∧ mN M' x = mN M x ∧ mR M' x = mR M x ∧ (¬ I x → mI M' x = mI M x) := by
  obtain ⟨-, ⟨h2, hI, -⟩, h3, -, -⟩ := h
  obtain ⟨a1, a2, a3, a4, a5⟩ := h3.2 x hx.1
  refine ⟨a1, a2, a4 (fun u => u.elim (fun u => hx.2.1 (h2 x u)) (fun u => hz u.1)), fun ni => a5 ?_⟩
  rintro ((u | ⟨t, ht, u⟩) | u)
  · exact hx.2.1 (h2 x u)
  · exact hx.2.2 t (h2 t ht) u.symm
  · exact ni u
theorem NC.v (h : NC L W (fun x => x = a) M M') (hF : NF L W M) (hb : b ∈ L) (ne : b ≠ a) : nv M' b = nv M b := (h.num hF hb ne).2.2.2.2.1
/-- a fraction whose numbers are of the family -/
def FrL (L : List Nat) (M : mM) (f : Nat) : Prop := FrP M f ∧ f + 1 ∈ L ∧ f + 3 ∈ L
theorem FrL.ns (h : FrL L M f) : mK M f ≠ 10 ∧ mK M f ≠ 30 ∧ mK M f ≠ 9 := by rw [h.1.1]; decide
theorem NL.frl (h : NL L W T I r z M M') (hF : NF L W M) (hf : FrL L M f) : FrL L M' f := ⟨(h.frp hF hf.1).1, hf.2⟩
/-- a small factor is written -/
theorem nl_times {v : Int} (hO : mOk M) (hF : NF L W M) (hf : FrL L M f) (hz : z < mZ M ∧ mK M z = 9) (hv : i32 v) (e : M' = mUI M f 2 v) (hT : ∀ t, T t → t ∈ L) (hI : I f) (hI' : ∀ x, I x → x < mZ M ∧ mK M x = 11) : NL L W T I r z M M' ∧ mI M' f 2 = v ∧ ∀ a, a ∈ L → nv M' a = nv M a := by
  have F : FI (fun x => x = f) M M' := by rw [e]; exact FI.ui rfl
  have o : mOk M' := by rw [e]; exact mOk_UI hO hv
  have ne : ∀ a, a ∈ L → a ≠ f ∧ mR M a 0 ≠ f := fun a ha => hF.nI hf.1.1 ha
  have cc : ∀ b, cp M' b = cp M b := fun b => by unfold cp; rw [F.2.2.1, F.2.1]
  have nt' : ∀ a, a ∈ L → Nt M' a (mR M a 0) (cp M a) (sz M a) := fun a ha => (hF.nt ha).fi F (ne a ha).1 (ne a ha).2
  refine ⟨⟨⟨o, hF.1, fun a ha => ⟨(nt' a ha).nn, by rw [cc]; exact (hF.2.1 a ha).2.1, (hF.2.1 a ha).2.2⟩, fun a b ha hb u => hF.2.2 a b ha hb (by rw [← F.2.2.1]; exact u)⟩, ⟨hT, hI', hz⟩, ((F.fa (R := fun _ => False)).fd (D := fun x => x = z + 13)).mono (fun x _ u => Or.inr (by rw [u]; exact hI)) (fun _ _ u => u.elim) (fun _ _ u => u), fun t _ => Or.inl (by rw [F.2.2.1]), ?_⟩, by rw [mI_ui f 2 e, if_pos ⟨rfl, rfl⟩], fun a ha => ?_⟩
  · unfold RmN
    rw [show cp M' = cp M from funext cc, F.2.2.2.2.1, F.2.2.2.2.2.1]
    exact ⟨Nat.le_refl _, Nat.le_refl _⟩
  · rw [(nt' a ha).nv]
    unfold nv
    rw [F.2.2.2.2.2.2 _ (ne a ha).2]
/-- a fraction's numbers -/
def T2 (f x : Nat) : Prop := x = f + 1 ∨ x = f + 3
theorem FrL.t2 (h : FrL L M f) : ∀ t, T2 f t → t ∈ L := fun t u => u.elim (fun u => by rw [u]; exact h.2.1) (fun u => by rw [u]; exact h.2.2)
theorem f_Fr_put0 {v : Int} (hv : 0 ≤ v ∧ v < 1073741824) (hO : mOk M) (hF : NF L W M) (hf : FrL L M f) (hz : z < mZ M ∧ mK M z = 9) : Cv G y_Fr_put0 (d + 1) [vr f, vi v] M (fun M' => NL L W (T2 f) (fun x => x = f) False z M M' ∧ nv M' (f + 1) = v ∧ nv M' (f + 3) = 1 ∧ mI M' f 2 = 1) := by
  have hI : ∀ x, (fun x => x = f) x → x < mZ M ∧ mK M x = 11 := fun x u => by rw [u]; exact ⟨hf.1.2.2, hf.1.1⟩
  obtain ⟨⟨k, ⟨r0, r1⟩, l⟩, m1, m3⟩ := id hf
  refine k_Fr_put0 hO (l30i hv) ?_
  rw [r0]
  refine ⟨k, hF.kd m1, (f_put0 hv hO hF m1).mono (fun M3 k3 => ?_)⟩
  obtain ⟨c1, v1⟩ := k3
  have F1 := c1.nf
  have n1 : NL L W (T2 f) (fun x => x = f) False z M M3 := (c1.nl (I := fun x => x = f) (r := False) hI hz).mono hF (fun t ht => Or.inl ht) hf.t2 (fun _ u => u) hI (fun u => u)
  have hf1 := n1.frl hF hf
  obtain ⟨⟨k1, ⟨-, r1'⟩, l1⟩, -⟩ := id hf1
  rw [r1']
  refine ⟨c1.ok, k1, F1.kd m3, (f_put0 ⟨by decide, by decide⟩ c1.ok F1 m3).mono (fun M8 k8 => ?_)⟩
  obtain ⟨c2, v2⟩ := k8
  have F2 := c2.nf
  have hz1 : z < mZ M3 ∧ mK M3 z = 9 := ⟨Nat.lt_of_lt_of_le hz.1 n1.2.2.1.1.1, by rw [n1.kind hz.1]; exact hz.2⟩
  have hI1 : ∀ x, (fun x => x = f) x → x < mZ M3 ∧ mK M3 x = 11 := fun x u => by rw [u]; exact ⟨l1, k1⟩
  have n2 : NL L W (T2 f) (fun x => x = f) False z M3 M8 := (c2.nl (I := fun x => x = f) (r := False) hI1 hz1).mono F1 (fun t ht => Or.inr ht) hf.t2 (fun _ u => u) hI1 (fun u => u)
  have hf2 := n2.frl F1 hf1
  have n12 := n1.trans n2
  refine ⟨c2.ok, hf2.1.1, fun M12 e12 => ?_⟩
  obtain ⟨n3, t3, w3⟩ := nl_times (T := T2 f) (I := fun x => x = f) (r := False) (z := z) c2.ok F2 hf2 ⟨Nat.lt_of_lt_of_le hz.1 n12.2.2.1.1.1, by rw [n12.kind hz.1]; exact hz.2⟩ ⟨by decide, by decide⟩ e12 hf.t2 rfl (fun x u => by rw [u]; exact ⟨hf2.1.2.2, hf2.1.1⟩)
  exact ⟨n12.trans n3, by rw [w3 _ m1, c2.v F1 m1 (by omega), v1], by rw [w3 _ m3, v2], t3⟩
theorem f_Fr_put1 (hO : mOk M) (hF : NF L W M) (hf : FrL L M f) (hg : FrL L M f') (ff : f ≠ f') (n1 : f + 1 ≠ f' + 3) (n2 : f + 3 ≠ f' + 1) (hz : z < mZ M ∧ mK M z = 9) (w1 : sz M (f' + 1) ≤ W (f + 1)) (w3 : sz M (f' + 3) ≤ W (f + 3)) : Cv G y_Fr_put1 (d + 2) [vr f, vr f'] M (fun M' => NL L W (T2 f) (fun x => x = f) False z M M' ∧ nv M' (f + 1) = nv M (f' + 1) ∧ nv M' (f + 3) = nv M (f' + 3) ∧ mI M' f 2 = mI M f' 2) := by
  have hI : ∀ x, (fun x => x = f) x → x < mZ M ∧ mK M x = 11 := fun x u => by rw [u]; exact ⟨hf.1.2.2, hf.1.1⟩
  obtain ⟨⟨k, ⟨r0, r1⟩, l⟩, m1, m3⟩ := id hf
  obtain ⟨⟨k', ⟨r0', r1'⟩, l'⟩, m1', m3'⟩ := id hg
  refine k_Fr_put1 hO ?_
  rw [r0, r0']
  refine ⟨k, k', hF.kd m1, (f_put1 hO hF m1 m1' (by omega) w1).mono (fun M3 k3 => ?_)⟩
  obtain ⟨c1, v1⟩ := k3
  have F1 := c1.nf
  have n1' : NL L W (T2 f) (fun x => x = f) False z M M3 := (c1.nl (I := fun x => x = f) (r := False) hI hz).mono hF (fun t ht => Or.inl ht) hf.t2 (fun _ u => u) hI (fun u => u)
  have hf1 := n1'.frl hF hf
  have hg1 := n1'.frl hF hg
  rw [hf1.1.2.1.2, hg1.1.2.1.2]
  have s3 := (c1.num hF m3' (show ¬ (f' + 3 = f + 1) by omega)).2.2.2.1
  refine ⟨c1.ok, hf1.1.1, hg1.1.1, F1.kd m3, (f_put1 c1.ok F1 m3 m3' (by omega) (by omega)).mono (fun M8 k8 => ?_)⟩
  obtain ⟨c2, v2⟩ := k8
  have F2 := c2.nf
  have hz1 : z < mZ M3 ∧ mK M3 z = 9 := ⟨Nat.lt_of_lt_of_le hz.1 n1'.2.2.1.1.1, by rw [n1'.kind hz.1]; exact hz.2⟩
  have hI1 : ∀ x, (fun x => x = f) x → x < mZ M3 ∧ mK M3 x = 11 := fun x u => by rw [u]; exact ⟨hf1.1.2.2, hf1.1.1⟩
  have n2' : NL L W (T2 f) (fun x => x = f) False z M3 M8 := (c2.nl (I := fun x => x = f) (r := False) hI1 hz1).mono F1 (fun t ht => Or.inr ht) hf.t2 (fun _ u => u) hI1 (fun u => u)
  have hf2 := n2'.frl F1 hf1
  have hg2 := n2'.frl F1 hg1
  have n12 := n1'.trans n2'
  have t2 : mI M8 f' 2 = mI M f' 2 := by rw [(n12.frp hF hg.1).2 (fun u => ff u.symm)]
  rw [t2]
  refine ⟨c2.ok, hg2.1.1, hf2.1.1, fun M12 e12 => ?_⟩
  obtain ⟨n3, t3, w3'⟩ := nl_times (T := T2 f) (I := fun x => x = f) (r := False) (z := z) c2.ok F2 hf2 ⟨Nat.lt_of_lt_of_le hz.1 n12.2.2.1.1.1, by rw [n12.kind hz.1]; exact hz.2⟩ (hO _ _).1 e12 hf.t2 rfl (fun x u => by rw [u]; exact ⟨hf2.1.2.2, hf2.1.1⟩)
  exact ⟨n12.trans n3, by rw [w3' _ m1, c2.v F1 m1 (by omega), v1], by rw [w3' _ m3, v2, c1.v hF m3' (by omega)], t3⟩
end NAT
