/-! The reference's objects under construction. -/
section REF
variable {l l1 l2 : List PR} {n n' s s' t o p k k' w c j q x d r : Nat} {v li : Int} {M M' M0 M1 : mM} {G : mG}
/-- nothing, or only a bound, is said of the ints -/
def fW (b : Nat) (x : PR) : PR := (x.1, x.2.1, x.2.2.1, .inr b)
def uW (l : List PR) (p r : Nat) : List PR := md (fW 0) (p + 1) (md (fW (r + 1)) p l)
theorem kd.uw (h : kd l o k) (h1 : o ≠ p) (h2 : o ≠ p + 1) : kd (uW l p r) o k := by
  obtain ⟨x, e1, e2, e3⟩ := h
  refine ⟨x, ?_, e2, e3⟩
  unfold uW
  rw [md_at, if_neg h2, md_at, if_neg h1]
  exact e1
theorem Cst.wset (h : Cst l n s t M0 M) (f : FI (fun x => x = t + p ∨ x = t + p + 1) M M') (ok : mOk M') (hb : 0 ≤ mI M' (t + p) 1 ∧ mI M' (t + p) 1 ≤ (r : Int)) : Cst (uW l p r) n s t M0 M' := by
  obtain ⟨ho, ⟨hl, hz⟩, hs, hf, hp⟩ := h
  obtain ⟨f1, f2, f3, f4, f5, f6, f7⟩ := f
  have E : ∀ x, x ≠ t + p → x ≠ t + p + 1 → Eqc M M' x := fun x a b => ⟨by rw [f1], by rw [f2], f7 x (fun u => u.elim a b), by rw [f4], by rw [f3]⟩
  refine ⟨ok, ⟨by unfold uW; rw [md_len, md_len]; exact hl, by rw [f5]; exact hz⟩, by rw [f6]; exact hs, fun x hx => (hf x hx).trans (E x (by omega) (by omega)), fun i y hy => ?_⟩
  unfold uW at hy
  rw [md_at] at hy
  by_cases h1 : i = p + 1
  · rw [if_pos h1, md_at, if_neg (by omega)] at hy
    obtain ⟨y0, g0, g1⟩ := Option.map_eq_some_iff.mp hy
    obtain ⟨p1, p2, p3, p4, p5⟩ := hp i y0 g0
    subst g1
    exact ⟨by rw [f1]; exact p1, by rw [f2]; exact p2, by rw [f3]; exact p3, by rw [f4]; exact p4, trivial⟩
  · rw [if_neg h1, md_at] at hy
    by_cases h2 : i = p
    · rw [if_pos h2] at hy
      obtain ⟨y0, g0, g1⟩ := Option.map_eq_some_iff.mp hy
      obtain ⟨p1, p2, p3, p4, p5⟩ := hp i y0 g0
      subst g1
      exact ⟨by rw [f1]; exact p1, by rw [f2]; exact p2, by rw [f3]; exact p3, by rw [f4]; exact p4, by rw [h2]; exact hb⟩
    · rw [if_neg h2] at hy
      exact (hp i y hy).eqc (E _ (by omega) (by omega))
def ini_MW (l : List PR) (o n r : Nat) : List PR := uR (pz l 30 r) o 0 n
theorem ii_MW (e : li = (r : Int)) (hr : r < 100000) (ht : 0 < t) (h : Cst l n s t M0 M) (k : kd l o 20) : Cv G y_MW_init (d + 1) [vr (t + o), vi li] M (fun M' => Cst (ini_MW l o n r) (n + 1) (s + r) t M0 M' ∧ kmn l (ini_MW l o n r)) := by
  subst e
  refine k_MW_init (d := d) h.1 ⟨by omega, by omega⟩ ⟨Nat.add_pos_left ht o, ⟨by omega, by omega⟩, ?_⟩
  intro M3 e3
  rw [Int.toNat_natCast] at e3
  have h3 := h.new e3
  rw [h.z]
  refine ⟨h3.kq k.pu, ?_⟩
  intro M6 e6
  exact ⟨h3.ur k.pu e6, fun _ _ u => kmn.ur _ _ u.pu⟩
/-- a row is exactly this -/
theorem rp.nwe (hl : l.length = n) : rp (pz l k w) n (fun x => x = (k, w, [], .inl [])) := by
  subst hl
  refine ⟨(k, w, [], .inl []), ?_, rfl⟩
  unfold pz
  rw [List.getElem?_append_right (Nat.le_refl _), Nat.sub_self]
  rfl
theorem rp.at {P P' : PR → Prop} {f : PR → PR} (h : rp l o P) (hf : ∀ x, P x → P' (f x)) : rp (md f o l) o P' := by
  obtain ⟨x, h1, h2⟩ := h
  refine ⟨f x, ?_, hf x h2⟩
  rw [md_at, if_pos rfl, h1]
  rfl
def ini_MF (l : List PR) (o n r : Nat) : List PR := uW (uR (ini_MW (pz (uR (ini_MW (pz l 20 0) n (n + 1) r) o 0 n) 20 0) (n + 2) (n + 3) r) o 1 (n + 2)) (n + 2) r
theorem ii_MF (e : li = (r : Int)) (hr : 3 ≤ r ∧ r < 100000) (ht : 0 < t) (h : Cst l n s t M0 M) (k : kd l o 19) : Cv G y_MF_init (d + 3) [vr (t + o), vi li] M (fun M' => Cst (ini_MF l o n r) (n + 4) (s + (4 + 2 * r)) t M0 M' ∧ kmn l (ini_MF l o n r)) := by
  subst e
  have lo := k.lt
  have ll := h.len
  refine k_MF_init (d := d + 2) h.1 ⟨by omega, by omega⟩ ⟨Nat.add_pos_left ht o, ?_⟩
  have g : kmn l l := fun _ _ u => u
  intro M2 eM2
  have hM2 := h.new eM2
  have gM2 := hM2.gg (g.trans kmn.pu)
  rw [h.z]
  refine (ii_MW (d := d + 1) rfl hr.2 ht hM2 (kd.nw h.len)).mono (fun M4 qM4 => ⟨qM4.1.1, ?_⟩)
  have hM4 := qM4.1
  have gM4 := gM2.trans qM4.2
  clear qM4
  refine ⟨hM4.kq (gM4 _ _ k), ?_⟩
  intro M8 eM8
  have hM8 := hM4.ur (gM4 _ _ k) eM8
  have gM8 := hM8.gg (gM4.trans kmn.ur)
  intro M10 eM10
  have hM10 := hM8.new eM10
  have gM10 := hM10.gg (gM8.trans kmn.pu)
  rw [hM8.z]
  refine (ii_MW (d := d + 1) rfl hr.2 ht hM10 (kd.nw hM8.len)).mono (fun M12 qM12 => ⟨qM12.1.1, ?_⟩)
  have hM12 := qM12.1
  have gM12 := gM10.trans qM12.2
  refine ⟨hM12.kq (gM12 _ _ k), ?_⟩
  intro M16 eM16
  have hM16 := hM12.ur (gM12 _ _ k) eM16
  have gM16 := hM16.gg (gM12.trans kmn.ur)
  have r1 : mR M16 (t + o) 1 = t + (n + 1 + 1) := by rw [eM16, mR_UR, if_pos ⟨rfl, rfl⟩]
  rw [r1]
  have kw : kd _ (n + 1 + 1) 20 := kmn.ur (o := o) (j := 1) (q := n + 1 + 1) _ _ (qM12.2 _ _ (kd.nw hM8.len))
  have w1 := rp.nwe (k := 20) (w := 0) hM8.len
  have w2 := rp.pu (k' := 30) (w := r) w1
  have w3 := rp.at (P' := fun x => x = (20, 0, [(0, n + 1 + 1 + 1)], .inl [])) (f := fR 0 (n + 1 + 1 + 1)) w2 (fun x u => by rw [u]; rfl)
  have w4 := rp.mdd (c := o) (f := fR 1 (n + 1 + 1)) w3 (fun u => absurd u (by omega))
  have y1 := rp.nwe (k := 30) (w := r) hM10.len
  have y2 := rp.mdd (c := n + 1 + 1) (f := fR 0 (n + 1 + 1 + 1)) y1 (fun u => absurd u (by omega))
  have y3 := rp.mdd (c := o) (f := fR 1 (n + 1 + 1)) y2 (fun u => absurd u (by omega))
  obtain ⟨rw_, ew, ew2⟩ := w4
  subst ew2
  obtain ⟨ry_, ey, ey2⟩ := y3
  subst ey2
  have Rw := hM16.2.2.2.2 _ _ ew
  have Ry := hM16.2.2.2.2 _ _ ey
  have wh : Wh M16 (t + (n + 1 + 1)) r := by
    refine ⟨Rw.1, (Rw.2.2.1 0).trans rfl, Ry.1, Ry.2.1, hr.2, ?_, ?_⟩
    · rw [Rw.2.2.2.2 1]; decide
    · rw [Rw.2.2.2.2 1]; show (0 : Int) ≤ _; omega
  refine ⟨hM16.kq kw, ?_⟩
  refine (s_MW_set (d := d + 2) (x := 1) (by decide) (by decide) ⟨by decide, by decide⟩ hM16.1 wh hr.1).mono (fun M19 q9 => ⟨q9.1, ?_⟩)
  obtain ⟨o9, f9, w9, -⟩ := q9
  refine ⟨(hM16.wset (p := n + 1 + 1) (r := r) f9 o9 ⟨w9.1.2.2.2.2.2.1, w9.1.2.2.2.2.2.2⟩).cv (by omega) (by omega), fun o' k' u => ?_⟩
  have lt := u.lt
  exact (gM16 _ _ u).uw (by omega) (by omega)
end REF
def ini_MN (l : List PR) (o n : Nat) : List PR := uR (pz (l) 30 16) o 0 n
theorem ii_MN {l : List PR} {n s t o d : Nat} {G : mG} {M0 M : mM} (ht : 0 < t) (h : Cst l n s t M0 M) (k : kd l o 15) : Cv G y_MN_init (d + 1) [vr (t + o)] M (fun M' => Cst (ini_MN l o n) (n + 1) (s + 16) t M0 M' ∧ kmn l (ini_MN l o n)) := by
  refine k_MN_init (d := d + 0) h.1 ⟨Nat.add_pos_left ht o, ?_⟩
  have g : kmn l l := fun _ _ u => u
  intro M2 eM2
  have hM2 := h.new eM2
  have gM2 := hM2.gg (g.trans kmn.pu)
  rw [h.z]
  refine ⟨hM2.kq (gM2 _ _ k), ?_⟩
  intro M5 eM5
  have hM5 := hM2.ur (gM2 _ _ k) eM5
  have gM5 := hM5.gg (gM2.trans kmn.ur)
  exact ⟨hM5.cv (by omega) (by omega), gM5⟩
def ini_MG (l : List PR) (o n : Nat) : List PR := uR (ini_MN (pz (uR (ini_MN (pz (uR (ini_MN (pz (uR (pz (uR (pz (uR (pz (uR (pz (uR (pz (uR (pz (uR (pz (uR (pz (uR (pz (uR (pz (uR (pz (uR (pz (uR (pz (uR (pz (uR (pz (uR (pz (uR (pz (uR (ini_MN (pz (uR (ini_MN (pz (uR (ini_MN (pz (uR (ini_MN (pz (uR (ini_MN (pz (uR (ini_MN (pz (l) 15 0) n (n + 1)) o 0 n) 15 0) (n + 2) (n + 3)) o 1 (n + 2)) 15 0) (n + 4) (n + 5)) o 2 (n + 4)) 15 0) (n + 6) (n + 7)) o 3 (n + 6)) 15 0) (n + 8) (n + 9)) o 4 (n + 8)) 15 0) (n + 10) (n + 11)) o 5 (n + 10)) 31 60) o 7 (n + 12)) 31 60) o 8 (n + 13)) 30 60) o 9 (n + 14)) 33 60) o 10 (n + 15)) 33 60) o 11 (n + 16)) 31 12) o 13 (n + 17)) 30 12) o 14 (n + 18)) 30 12) o 15 (n + 19)) 30 12) o 16 (n + 20)) 31 60) o 19 (n + 21)) 30 60) o 20 (n + 22)) 30 60) o 21 (n + 23)) 30 60) o 22 (n + 24)) 30 480) o 23 (n + 25)) 30 480) o 24 (n + 26)) 30 480) o 25 (n + 27)) 30 480) o 26 (n + 28)) 15 0) (n + 29) (n + 30)) o 27 (n + 29)) 15 0) (n + 31) (n + 32)) o 28 (n + 31)) 15 0) (n + 33) (n + 34)) o 29 (n + 33)
theorem ii_MG {l : List PR} {n s t o d : Nat} {G : mG} {M0 M : mM} (ht : 0 < t) (h : Cst l n s t M0 M) (k : kd l o 16) : Cv G y_MG_init (d + 2) [vr (t + o)] M (fun M' => Cst (ini_MG l o n) (n + 35) (s + 2670) t M0 M' ∧ kmn l (ini_MG l o n)) := by
  refine k_MG_init (d := d + 1) h.1 ⟨Nat.add_pos_left ht o, ?_⟩
  have g : kmn l l := fun _ _ u => u
  intro M2 eM2
  have hM2 := h.new eM2
  have gM2 := hM2.gg (g.trans kmn.pu)
  rw [h.z]
  refine (ii_MN (d := d + 0) ht hM2 (kd.nw h.len)).mono (fun M4 qM4 => ⟨qM4.1.1, ?_⟩)
  have hM4 := qM4.1
  have gM4 := gM2.trans qM4.2
  clear qM4
  refine ⟨hM4.kq (gM4 _ _ k), ?_⟩
  intro M8 eM8
  have hM8 := hM4.ur (gM4 _ _ k) eM8
  have gM8 := hM8.gg (gM4.trans kmn.ur)
  intro M10 eM10
  have hM10 := hM8.new eM10
  have gM10 := hM10.gg (gM8.trans kmn.pu)
  rw [hM8.z]
  refine (ii_MN (d := d + 0) ht hM10 (kd.nw hM8.len)).mono (fun M12 qM12 => ⟨qM12.1.1, ?_⟩)
  have hM12 := qM12.1
  have gM12 := gM10.trans qM12.2
  clear qM12
  refine ⟨hM12.kq (gM12 _ _ k), ?_⟩
  intro M16 eM16
  have hM16 := hM12.ur (gM12 _ _ k) eM16
  have gM16 := hM16.gg (gM12.trans kmn.ur)
  intro M18 eM18
  have hM18 := hM16.new eM18
  have gM18 := hM18.gg (gM16.trans kmn.pu)
  rw [hM16.z]
  refine (ii_MN (d := d + 0) ht hM18 (kd.nw hM16.len)).mono (fun M20 qM20 => ⟨qM20.1.1, ?_⟩)
  have hM20 := qM20.1
  have gM20 := gM18.trans qM20.2
  clear qM20
  refine ⟨hM20.kq (gM20 _ _ k), ?_⟩
  intro M24 eM24
  have hM24 := hM20.ur (gM20 _ _ k) eM24
  have gM24 := hM24.gg (gM20.trans kmn.ur)
  intro M26 eM26
  have hM26 := hM24.new eM26
  have gM26 := hM26.gg (gM24.trans kmn.pu)
  rw [hM24.z]
  refine (ii_MN (d := d + 0) ht hM26 (kd.nw hM24.len)).mono (fun M28 qM28 => ⟨qM28.1.1, ?_⟩)
  have hM28 := qM28.1
  have gM28 := gM26.trans qM28.2
  clear qM28
  refine ⟨hM28.kq (gM28 _ _ k), ?_⟩
  intro M32 eM32
  have hM32 := hM28.ur (gM28 _ _ k) eM32
  have gM32 := hM32.gg (gM28.trans kmn.ur)
  intro M34 eM34
  have hM34 := hM32.new eM34
  have gM34 := hM34.gg (gM32.trans kmn.pu)
  rw [hM32.z]
  refine (ii_MN (d := d + 0) ht hM34 (kd.nw hM32.len)).mono (fun M36 qM36 => ⟨qM36.1.1, ?_⟩)
  have hM36 := qM36.1
  have gM36 := gM34.trans qM36.2
  clear qM36
  refine ⟨hM36.kq (gM36 _ _ k), ?_⟩
  intro M40 eM40
  have hM40 := hM36.ur (gM36 _ _ k) eM40
  have gM40 := hM40.gg (gM36.trans kmn.ur)
  intro M42 eM42
  have hM42 := hM40.new eM42
  have gM42 := hM42.gg (gM40.trans kmn.pu)
  rw [hM40.z]
  refine (ii_MN (d := d + 0) ht hM42 (kd.nw hM40.len)).mono (fun M44 qM44 => ⟨qM44.1.1, ?_⟩)
  have hM44 := qM44.1
  have gM44 := gM42.trans qM44.2
  clear qM44
  refine ⟨hM44.kq (gM44 _ _ k), ?_⟩
  intro M48 eM48
  have hM48 := hM44.ur (gM44 _ _ k) eM48
  have gM48 := hM48.gg (gM44.trans kmn.ur)
  intro M50 eM50
  have hM50 := hM48.new eM50
  have gM50 := hM50.gg (gM48.trans kmn.pu)
  rw [hM48.z]
  refine ⟨hM50.kq (gM50 _ _ k), ?_⟩
  intro M53 eM53
  have hM53 := hM50.ur (gM50 _ _ k) eM53
  have gM53 := hM53.gg (gM50.trans kmn.ur)
  intro M55 eM55
  have hM55 := hM53.new eM55
  have gM55 := hM55.gg (gM53.trans kmn.pu)
  rw [hM53.z]
  refine ⟨hM55.kq (gM55 _ _ k), ?_⟩
  intro M58 eM58
  have hM58 := hM55.ur (gM55 _ _ k) eM58
  have gM58 := hM58.gg (gM55.trans kmn.ur)
  intro M60 eM60
  have hM60 := hM58.new eM60
  have gM60 := hM60.gg (gM58.trans kmn.pu)
  rw [hM58.z]
  refine ⟨hM60.kq (gM60 _ _ k), ?_⟩
  intro M63 eM63
  have hM63 := hM60.ur (gM60 _ _ k) eM63
  have gM63 := hM63.gg (gM60.trans kmn.ur)
  intro M65 eM65
  have hM65 := hM63.new eM65
  have gM65 := hM65.gg (gM63.trans kmn.pu)
  rw [hM63.z]
  refine ⟨hM65.kq (gM65 _ _ k), ?_⟩
  intro M68 eM68
  have hM68 := hM65.ur (gM65 _ _ k) eM68
  have gM68 := hM68.gg (gM65.trans kmn.ur)
  intro M70 eM70
  have hM70 := hM68.new eM70
  have gM70 := hM70.gg (gM68.trans kmn.pu)
  rw [hM68.z]
  refine ⟨hM70.kq (gM70 _ _ k), ?_⟩
  intro M73 eM73
  have hM73 := hM70.ur (gM70 _ _ k) eM73
  have gM73 := hM73.gg (gM70.trans kmn.ur)
  intro M75 eM75
  have hM75 := hM73.new eM75
  have gM75 := hM75.gg (gM73.trans kmn.pu)
  rw [hM73.z]
  refine ⟨hM75.kq (gM75 _ _ k), ?_⟩
  intro M78 eM78
  have hM78 := hM75.ur (gM75 _ _ k) eM78
  have gM78 := hM78.gg (gM75.trans kmn.ur)
  intro M80 eM80
  have hM80 := hM78.new eM80
  have gM80 := hM80.gg (gM78.trans kmn.pu)
  rw [hM78.z]
  refine ⟨hM80.kq (gM80 _ _ k), ?_⟩
  intro M83 eM83
  have hM83 := hM80.ur (gM80 _ _ k) eM83
  have gM83 := hM83.gg (gM80.trans kmn.ur)
  intro M85 eM85
  have hM85 := hM83.new eM85
  have gM85 := hM85.gg (gM83.trans kmn.pu)
  rw [hM83.z]
  refine ⟨hM85.kq (gM85 _ _ k), ?_⟩
  intro M88 eM88
  have hM88 := hM85.ur (gM85 _ _ k) eM88
  have gM88 := hM88.gg (gM85.trans kmn.ur)
  intro M90 eM90
  have hM90 := hM88.new eM90
  have gM90 := hM90.gg (gM88.trans kmn.pu)
  rw [hM88.z]
  refine ⟨hM90.kq (gM90 _ _ k), ?_⟩
  intro M93 eM93
  have hM93 := hM90.ur (gM90 _ _ k) eM93
  have gM93 := hM93.gg (gM90.trans kmn.ur)
  intro M95 eM95
  have hM95 := hM93.new eM95
  have gM95 := hM95.gg (gM93.trans kmn.pu)
  rw [hM93.z]
  refine ⟨hM95.kq (gM95 _ _ k), ?_⟩
  intro M98 eM98
  have hM98 := hM95.ur (gM95 _ _ k) eM98
  have gM98 := hM98.gg (gM95.trans kmn.ur)
  intro M100 eM100
  have hM100 := hM98.new eM100
  have gM100 := hM100.gg (gM98.trans kmn.pu)
  rw [hM98.z]
  refine ⟨hM100.kq (gM100 _ _ k), ?_⟩
  intro M103 eM103
  have hM103 := hM100.ur (gM100 _ _ k) eM103
  have gM103 := hM103.gg (gM100.trans kmn.ur)
  intro M105 eM105
  have hM105 := hM103.new eM105
  have gM105 := hM105.gg (gM103.trans kmn.pu)
  rw [hM103.z]
  refine ⟨hM105.kq (gM105 _ _ k), ?_⟩
  intro M108 eM108
  have hM108 := hM105.ur (gM105 _ _ k) eM108
  have gM108 := hM108.gg (gM105.trans kmn.ur)
  intro M110 eM110
  have hM110 := hM108.new eM110
  have gM110 := hM110.gg (gM108.trans kmn.pu)
  rw [hM108.z]
  refine ⟨hM110.kq (gM110 _ _ k), ?_⟩
  intro M113 eM113
  have hM113 := hM110.ur (gM110 _ _ k) eM113
  have gM113 := hM113.gg (gM110.trans kmn.ur)
  intro M115 eM115
  have hM115 := hM113.new eM115
  have gM115 := hM115.gg (gM113.trans kmn.pu)
  rw [hM113.z]
  refine ⟨hM115.kq (gM115 _ _ k), ?_⟩
  intro M118 eM118
  have hM118 := hM115.ur (gM115 _ _ k) eM118
  have gM118 := hM118.gg (gM115.trans kmn.ur)
  intro M120 eM120
  have hM120 := hM118.new eM120
  have gM120 := hM120.gg (gM118.trans kmn.pu)
  rw [hM118.z]
  refine ⟨hM120.kq (gM120 _ _ k), ?_⟩
  intro M123 eM123
  have hM123 := hM120.ur (gM120 _ _ k) eM123
  have gM123 := hM123.gg (gM120.trans kmn.ur)
  intro M125 eM125
  have hM125 := hM123.new eM125
  have gM125 := hM125.gg (gM123.trans kmn.pu)
  rw [hM123.z]
  refine ⟨hM125.kq (gM125 _ _ k), ?_⟩
  intro M128 eM128
  have hM128 := hM125.ur (gM125 _ _ k) eM128
  have gM128 := hM128.gg (gM125.trans kmn.ur)
  intro M130 eM130
  have hM130 := hM128.new eM130
  have gM130 := hM130.gg (gM128.trans kmn.pu)
  rw [hM128.z]
  refine ⟨hM130.kq (gM130 _ _ k), ?_⟩
  intro M133 eM133
  have hM133 := hM130.ur (gM130 _ _ k) eM133
  have gM133 := hM133.gg (gM130.trans kmn.ur)
  intro M135 eM135
  have hM135 := hM133.new eM135
  have gM135 := hM135.gg (gM133.trans kmn.pu)
  rw [hM133.z]
  refine (ii_MN (d := d + 0) ht hM135 (kd.nw hM133.len)).mono (fun M137 qM137 => ⟨qM137.1.1, ?_⟩)
  have hM137 := qM137.1
  have gM137 := gM135.trans qM137.2
  clear qM137
  refine ⟨hM137.kq (gM137 _ _ k), ?_⟩
  intro M141 eM141
  have hM141 := hM137.ur (gM137 _ _ k) eM141
  have gM141 := hM141.gg (gM137.trans kmn.ur)
  intro M143 eM143
  have hM143 := hM141.new eM143
  have gM143 := hM143.gg (gM141.trans kmn.pu)
  rw [hM141.z]
  refine (ii_MN (d := d + 0) ht hM143 (kd.nw hM141.len)).mono (fun M145 qM145 => ⟨qM145.1.1, ?_⟩)
  have hM145 := qM145.1
  have gM145 := gM143.trans qM145.2
  clear qM145
  refine ⟨hM145.kq (gM145 _ _ k), ?_⟩
  intro M149 eM149
  have hM149 := hM145.ur (gM145 _ _ k) eM149
  have gM149 := hM149.gg (gM145.trans kmn.ur)
  intro M151 eM151
  have hM151 := hM149.new eM151
  have gM151 := hM151.gg (gM149.trans kmn.pu)
  rw [hM149.z]
  refine (ii_MN (d := d + 0) ht hM151 (kd.nw hM149.len)).mono (fun M153 qM153 => ⟨qM153.1.1, ?_⟩)
  have hM153 := qM153.1
  have gM153 := gM151.trans qM153.2
  clear qM153
  refine ⟨hM153.kq (gM153 _ _ k), ?_⟩
  intro M157 eM157
  have hM157 := hM153.ur (gM153 _ _ k) eM157
  have gM157 := hM157.gg (gM153.trans kmn.ur)
  exact ⟨hM157.cv (by omega) (by omega), gM157⟩
def ini_MU (l : List PR) (o n : Nat) : List PR := uR (ini_MW (pz (uR (ini_MW (pz (uR (ini_MW (pz (uR (ini_MW (pz (uR (ini_MW (pz (uR (ini_MF (pz (uR (ini_MF (pz (l) 19 0) n (n + 1) 900) o 0 n) 19 0) (n + 5) (n + 6) 900) o 1 (n + 5)) 20 0) (n + 10) (n + 11) 900) o 2 (n + 10)) 20 0) (n + 12) (n + 13) 900) o 3 (n + 12)) 20 0) (n + 14) (n + 15) 900) o 4 (n + 14)) 20 0) (n + 16) (n + 17) 900) o 5 (n + 16)) 20 0) (n + 18) (n + 19) 900) o 6 (n + 18)
theorem ii_MU {l : List PR} {n s t o d : Nat} {G : mG} {M0 M : mM} (ht : 0 < t) (h : Cst l n s t M0 M) (k : kd l o 18) : Cv G y_MU_init (d + 4) [vr (t + o)] M (fun M' => Cst (ini_MU l o n) (n + 20) (s + 8124) t M0 M' ∧ kmn l (ini_MU l o n)) := by
  refine k_MU_init (d := d + 3) h.1 ⟨Nat.add_pos_left ht o, ?_⟩
  have g : kmn l l := fun _ _ u => u
  intro M2 eM2
  have hM2 := h.new eM2
  have gM2 := hM2.gg (g.trans kmn.pu)
  rw [h.z]
  refine (ii_MF (d := d + 0) (r := 900) rfl (by decide) ht hM2 (kd.nw h.len)).mono (fun M4 qM4 => ⟨qM4.1.1, ?_⟩)
  have hM4 := qM4.1
  have gM4 := gM2.trans qM4.2
  clear qM4
  refine ⟨hM4.kq (gM4 _ _ k), ?_⟩
  intro M8 eM8
  have hM8 := hM4.ur (gM4 _ _ k) eM8
  have gM8 := hM8.gg (gM4.trans kmn.ur)
  intro M10 eM10
  have hM10 := hM8.new eM10
  have gM10 := hM10.gg (gM8.trans kmn.pu)
  rw [hM8.z]
  refine (ii_MF (d := d + 0) (r := 900) rfl (by decide) ht hM10 (kd.nw hM8.len)).mono (fun M12 qM12 => ⟨qM12.1.1, ?_⟩)
  have hM12 := qM12.1
  have gM12 := gM10.trans qM12.2
  clear qM12
  refine ⟨hM12.kq (gM12 _ _ k), ?_⟩
  intro M16 eM16
  have hM16 := hM12.ur (gM12 _ _ k) eM16
  have gM16 := hM16.gg (gM12.trans kmn.ur)
  intro M18 eM18
  have hM18 := hM16.new eM18
  have gM18 := hM18.gg (gM16.trans kmn.pu)
  rw [hM16.z]
  refine (ii_MW (d := d + 2) (r := 900) rfl (by decide) ht hM18 (kd.nw hM16.len)).mono (fun M20 qM20 => ⟨qM20.1.1, ?_⟩)
  have hM20 := qM20.1
  have gM20 := gM18.trans qM20.2
  clear qM20
  refine ⟨hM20.kq (gM20 _ _ k), ?_⟩
  intro M24 eM24
  have hM24 := hM20.ur (gM20 _ _ k) eM24
  have gM24 := hM24.gg (gM20.trans kmn.ur)
  intro M26 eM26
  have hM26 := hM24.new eM26
  have gM26 := hM26.gg (gM24.trans kmn.pu)
  rw [hM24.z]
  refine (ii_MW (d := d + 2) (r := 900) rfl (by decide) ht hM26 (kd.nw hM24.len)).mono (fun M28 qM28 => ⟨qM28.1.1, ?_⟩)
  have hM28 := qM28.1
  have gM28 := gM26.trans qM28.2
  clear qM28
  refine ⟨hM28.kq (gM28 _ _ k), ?_⟩
  intro M32 eM32
  have hM32 := hM28.ur (gM28 _ _ k) eM32
  have gM32 := hM32.gg (gM28.trans kmn.ur)
  intro M34 eM34
  have hM34 := hM32.new eM34
  have gM34 := hM34.gg (gM32.trans kmn.pu)
  rw [hM32.z]
  refine (ii_MW (d := d + 2) (r := 900) rfl (by decide) ht hM34 (kd.nw hM32.len)).mono (fun M36 qM36 => ⟨qM36.1.1, ?_⟩)
  have hM36 := qM36.1
  have gM36 := gM34.trans qM36.2
  clear qM36
  refine ⟨hM36.kq (gM36 _ _ k), ?_⟩
  intro M40 eM40
  have hM40 := hM36.ur (gM36 _ _ k) eM40
  have gM40 := hM40.gg (gM36.trans kmn.ur)
  intro M42 eM42
  have hM42 := hM40.new eM42
  have gM42 := hM42.gg (gM40.trans kmn.pu)
  rw [hM40.z]
  refine (ii_MW (d := d + 2) (r := 900) rfl (by decide) ht hM42 (kd.nw hM40.len)).mono (fun M44 qM44 => ⟨qM44.1.1, ?_⟩)
  have hM44 := qM44.1
  have gM44 := gM42.trans qM44.2
  clear qM44
  refine ⟨hM44.kq (gM44 _ _ k), ?_⟩
  intro M48 eM48
  have hM48 := hM44.ur (gM44 _ _ k) eM48
  have gM48 := hM48.gg (gM44.trans kmn.ur)
  intro M50 eM50
  have hM50 := hM48.new eM50
  have gM50 := hM50.gg (gM48.trans kmn.pu)
  rw [hM48.z]
  refine (ii_MW (d := d + 2) (r := 900) rfl (by decide) ht hM50 (kd.nw hM48.len)).mono (fun M52 qM52 => ⟨qM52.1.1, ?_⟩)
  have hM52 := qM52.1
  have gM52 := gM50.trans qM52.2
  clear qM52
  refine ⟨hM52.kq (gM52 _ _ k), ?_⟩
  intro M56 eM56
  have hM56 := hM52.ur (gM52 _ _ k) eM56
  have gM56 := hM56.gg (gM52.trans kmn.ur)
  exact ⟨hM56.cv (by omega) (by omega), gM56⟩
