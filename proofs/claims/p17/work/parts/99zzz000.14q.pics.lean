/-! Pictures of objects under construction: rows are kind, length, references (places counted from t), ints. -/
abbrev PR : Type := Nat × Nat × List (Nat × Nat) × (List (Nat × Int) ⊕ Nat)
def lpR : List (Nat × Nat) → Nat → Nat → Nat
  | [], _, _ => 0
  | (k, q) :: l, j, t => if j = k then t + q else lpR l j t
def lpI : List (Nat × Int) → Nat → Int
  | [], _ => 0
  | (k, v) :: l, j => if j = k then v else lpI l j
def intA : (List (Nat × Int) ⊕ Nat) → (Nat → Int) → Prop
  | .inl l, f => ∀ j, f j = lpI l j
  | .inr 0, _ => True
  | .inr (b + 1), f => 0 ≤ f 1 ∧ f 1 ≤ (b : Int)
def RowAt (r : PR) (t x : Nat) (M : mM) : Prop := mK M x = r.1 ∧ mN M x = r.2.1 ∧ (∀ j, mR M x j = lpR r.2.2.1 j t) ∧ (∀ j, mL M x j = 0) ∧ intA r.2.2.2 (mI M x)
def md (f : PR → PR) : Nat → List PR → List PR
  | _, [] => []
  | 0, x :: l => f x :: l
  | k + 1, x :: l => x :: md f k l
theorem md_at (f : PR → PR) : ∀ (i : Nat) (l : List PR) (j : Nat), (md f i l)[j]? = if j = i then (l[j]?).map f else l[j]?
  | i, [], j => by cases i <;> simp [md]
  | 0, x :: l, j => by cases j <;> simp [md]
  | i + 1, x :: l, 0 => by simp [md]
  | i + 1, x :: l, j + 1 => by simp [md, md_at f i l j]
theorem md_len (f : PR → PR) : ∀ (i : Nat) (l : List PR), (md f i l).length = l.length
  | i, [] => by cases i <;> rfl
  | 0, x :: l => rfl
  | i + 1, x :: l => by simp [md, md_len f i l]
def fR (j q : Nat) (r : PR) : PR := (r.1, r.2.1, (j, q) :: r.2.2.1, r.2.2.2)
def fI0 (j : Nat) (v : Int) : (List (Nat × Int) ⊕ Nat) → (List (Nat × Int) ⊕ Nat)
  | .inl l => .inl ((j, v) :: l)
  | .inr b => .inr b
def fI (j : Nat) (v : Int) (r : PR) : PR := (r.1, r.2.1, r.2.2.1, fI0 j v r.2.2.2)
def uR (l : List PR) (o j q : Nat) : List PR := md (fR j q) o l
def uI (l : List PR) (o j : Nat) (v : Int) : List PR := md (fI j v) o l
def pz (l : List PR) (k n : Nat) : List PR := l ++ [(k, n, [], .inl [])]
def Eqc (M M' : mM) (x : Nat) : Prop := mK M' x = mK M x ∧ mN M' x = mN M x ∧ mI M' x = mI M x ∧ mL M' x = mL M x ∧ mR M' x = mR M x
def Pic (l : List PR) (t : Nat) (M : mM) : Prop := ∀ (o : Nat) (r : PR), l[o]? = some r → RowAt r t (t + o) M
def Cst (l : List PR) (n s t : Nat) (M0 M : mM) : Prop := mOk M ∧ (l.length = n ∧ mZ M = t + n) ∧ mS M = mS M0 + s ∧ (∀ x, x < t → Eqc M0 M x) ∧ Pic l t M
def kd (l : List PR) (o k : Nat) : Prop := ∃ r : PR, l[o]? = some r ∧ r.1 = k ∧ ∃ u, r.2.2.2 = .inl u
def kmn (l l' : List PR) : Prop := ∀ o k, kd l o k → kd l' o k
section PIC
variable {l l1 l2 : List PR} {n n' s s' t o k k' w c j q x : Nat} {v : Int} {M M' M0 M1 : mM} {r : PR}
theorem Eqc.rfl' : Eqc M M x := ⟨rfl, rfl, rfl, rfl, rfl⟩
theorem Eqc.trans (h : Eqc M M' x) (g : Eqc M' M1 x) : Eqc M M1 x := ⟨g.1.trans h.1, g.2.1.trans h.2.1, g.2.2.1.trans h.2.2.1, g.2.2.2.1.trans h.2.2.2.1, g.2.2.2.2.trans h.2.2.2.2⟩
theorem eqc_new (h : x ≠ mZ M) : Eqc M (mNew M k w c) x := ⟨if_neg h, if_neg h, funext fun _ => if_neg h, funext fun _ => if_neg h, funext fun _ => if_neg h⟩
theorem eqc_ur {a : Nat} (h : x ≠ a) : Eqc M (mUR M a j q) x := ⟨rfl, rfl, rfl, rfl, funext fun _ => if_neg (fun u => h u.1)⟩
theorem eqc_ui {a : Nat} (h : x ≠ a) : Eqc M (mUI M a j v) x := ⟨rfl, rfl, funext fun _ => if_neg (fun u => h u.1), rfl, rfl⟩
theorem RowAt.eqc (h : RowAt r t x M) (e : Eqc M M' x) : RowAt r t x M' := by
  obtain ⟨e1, e2, e3, e4, e5⟩ := e
  unfold RowAt at h ⊢
  rw [e1, e2, e3, e4, e5]
  exact h
theorem Pic.eqc (h : Pic l t M) (e : ∀ o, o < l.length → Eqc M M' (t + o)) : Pic l t M' := fun o r hr => (h o r hr).eqc (e o (List.getElem?_eq_some_iff.mp hr).1)
theorem kd.lt (h : kd l o k) : o < l.length := by
  obtain ⟨r, h1, -⟩ := h
  exact (List.getElem?_eq_some_iff.mp h1).1
theorem kd.pu (h : kd l o k) : kd (pz l k' w) o k := by
  obtain ⟨r, h1, h2⟩ := id h
  refine ⟨r, ?_, h2⟩
  unfold pz
  rw [List.getElem?_append_left h.lt]
  exact h1
theorem kd.nw (hl : l.length = n) : kd (pz l k w) n k := by
  subst hl
  refine ⟨(k, w, [], .inl []), ?_, rfl, [], rfl⟩
  unfold pz
  rw [List.getElem?_append_right (Nat.le_refl _), Nat.sub_self]
  rfl
theorem kd.mdd {f : PR → PR} (h : kd l o k) (hf : ∀ r : PR, r.1 = k → (∃ u, r.2.2.2 = .inl u) → (f r).1 = k ∧ ∃ u, (f r).2.2.2 = .inl u) : kd (md f c l) o k := by
  obtain ⟨r, h1, h2, h3⟩ := h
  by_cases e : o = c
  · refine ⟨f r, ?_, hf r h2 h3⟩
    rw [md_at, if_pos e, h1]
    rfl
  · refine ⟨r, ?_, h2, h3⟩
    rw [md_at, if_neg e]
    exact h1
theorem kmn.trans (h : kmn l l1) (g : kmn l1 l2) : kmn l l2 := fun o k u => g o k (h o k u)
theorem kmn.pu : kmn l (pz l k' w) := fun _ _ u => u.pu
theorem kmn.ur : kmn l (uR l o j q) := fun _ _ u => u.mdd (fun _ a b => ⟨a, b⟩)
theorem kmn.ui : kmn l (uI l o j v) := fun _ _ u => u.mdd (fun r a b => ⟨a, by
  obtain ⟨y, hy⟩ := b
  refine ⟨(j, v) :: y, ?_⟩
  show fI0 j v r.2.2.2 = _
  rw [hy]
  rfl⟩)
theorem Cst.gg (_h : Cst l2 n s t M0 M) (g : kmn l l2) : kmn l l2 := g
theorem Cst.z (h : Cst l n s t M0 M) : mZ M = t + n := h.2.1.2
theorem Cst.len (h : Cst l n s t M0 M) : l.length = n := h.2.1.1
theorem Cst.cv (h : Cst l n s t M0 M) (e1 : n = n') (e2 : s = s') : Cst l n' s' t M0 M := by subst e1; subst e2; exact h
theorem Cst.kq (h : Cst l n s t M0 M) (g : kd l o k) : mK M (t + o) = k := by
  obtain ⟨r, h1, h2, -⟩ := g
  rw [(h.2.2.2.2 o r h1).1]
  exact h2
theorem Cst.new (h : Cst l n s t M0 M) (e : M' = mNew M k w c) : Cst (pz l k w) (n + 1) (s + c) t M0 M' := by
  obtain ⟨ho, ⟨hl, hz⟩, hs, hf, hp⟩ := h
  subst e
  refine ⟨mOk_New ho, ⟨by unfold pz; rw [List.length_append, hl]; rfl, by rw [mZ_New, hz]; omega⟩, by rw [mS_New, hs]; omega, fun x hx => (hf x hx).trans (eqc_new (by omega)), fun i r hr => ?_⟩
  unfold pz at hr
  by_cases hi : i < l.length
  · rw [List.getElem?_append_left hi] at hr
    exact (hp i r hr).eqc (eqc_new (by omega))
  · rw [List.getElem?_append_right (by omega)] at hr
    have lt := (List.getElem?_eq_some_iff.mp hr).1
    have l1 : i - l.length < 1 := lt
    have ei : i - l.length = 0 := by omega
    rw [ei] at hr
    have er : r = (k, w, [], .inl []) := (Option.some.inj hr).symm
    subst er
    have ez : t + i = mZ M := by omega
    rw [ez]
    exact ⟨if_pos rfl, if_pos rfl, fun _ => if_pos rfl, fun _ => if_pos rfl, fun _ => if_pos rfl⟩
theorem Cst.ur (h : Cst l n s t M0 M) (_g : kd l o k) (e : M' = mUR M (t + o) j (t + q)) : Cst (uR l o j q) n s t M0 M' := by
  obtain ⟨ho, ⟨hl, hz⟩, hs, hf, hp⟩ := h
  subst e
  refine ⟨mOk_UR ho, ⟨by unfold uR; rw [md_len]; exact hl, hz⟩, hs, fun x hx => (hf x hx).trans (eqc_ur (by omega)), fun i r hr => ?_⟩
  unfold uR at hr
  rw [md_at] at hr
  by_cases hi : i = o
  · rw [if_pos hi] at hr
    obtain ⟨r0, h0, h1⟩ := Option.map_eq_some_iff.mp hr
    obtain ⟨p1, p2, p3, p4, p5⟩ := hp i r0 h0
    subst h1
    subst hi
    refine ⟨p1, p2, fun j' => ?_, p4, p5⟩
    show mR (mUR M (t + i) j (t + q)) (t + i) j' = if j' = j then t + q else lpR r0.2.2.1 j' t
    rw [mR_UR]
    by_cases c : j' = j
    · rw [if_pos ⟨rfl, c⟩, if_pos c]
    · rw [if_neg (fun u => c u.2), if_neg c]
      exact p3 j'
  · rw [if_neg hi] at hr
    exact (hp i r hr).eqc (eqc_ur (by omega))
theorem Cst.ui (h : Cst l n s t M0 M) (g : kd l o k) (hv : i32 v) (e : M' = mUI M (t + o) j v) : Cst (uI l o j v) n s t M0 M' := by
  obtain ⟨ho, ⟨hl, hz⟩, hs, hf, hp⟩ := h
  subst e
  refine ⟨mOk_UI ho hv, ⟨by unfold uI; rw [md_len]; exact hl, hz⟩, hs, fun x hx => (hf x hx).trans (eqc_ui (by omega)), fun i r hr => ?_⟩
  unfold uI at hr
  rw [md_at] at hr
  by_cases hi : i = o
  · rw [if_pos hi] at hr
    obtain ⟨r0, h0, h1⟩ := Option.map_eq_some_iff.mp hr
    obtain ⟨p1, p2, p3, p4, p5⟩ := hp i r0 h0
    subst hi
    obtain ⟨r9, g1, -, u, g2⟩ := g
    cases g1.symm.trans h0
    rw [g2] at p5
    subst h1
    refine ⟨p1, p2, p3, p4, ?_⟩
    show intA (fI0 j v r0.2.2.2) _
    rw [g2]
    intro j'
    show mI (mUI M (t + i) j v) (t + i) j' = if j' = j then v else lpI u j'
    rw [mI_UI]
    by_cases c : j' = j
    · rw [if_pos ⟨rfl, c⟩, if_pos c]
    · rw [if_neg (fun u => c u.2), if_neg c]
      exact p5 j'
  · rw [if_neg hi] at hr
    exact (hp i r hr).eqc (eqc_ui (by omega))
end PIC
section PID
variable {l l1 l2 : List PR} {n n' s s' t o o' k k' w c j q x d : Nat} {v : Int} {M M' M0 M1 : mM} {r : PR} {P : PR → Prop} {G : mG}
/-- row o has the property P -/
def rp (l : List PR) (o : Nat) (P : PR → Prop) : Prop := ∃ r : PR, l[o]? = some r ∧ P r
theorem rp.pu (h : rp l o P) : rp (pz l k' w) o P := by
  obtain ⟨r, h1, h2⟩ := h
  refine ⟨r, ?_, h2⟩
  unfold pz
  rw [List.getElem?_append_left (List.getElem?_eq_some_iff.mp h1).1]
  exact h1
theorem rp.mdd {f : PR → PR} (h : rp l o P) (hf : o = c → ∀ r : PR, P r → P (f r)) : rp (md f c l) o P := by
  obtain ⟨r, h1, h2⟩ := h
  by_cases e : o = c
  · refine ⟨f r, ?_, hf e r h2⟩
    rw [md_at, if_pos e, h1]
    rfl
  · refine ⟨r, ?_, h2⟩
    rw [md_at, if_neg e]
    exact h1
theorem rp.set (h : kd l o k) : rp (uR l o j q) o (fun r => ∀ t, lpR r.2.2.1 j t = t + q) := by
  obtain ⟨r, h1, -⟩ := h
  refine ⟨fR j q r, ?_, fun t => if_pos rfl⟩
  unfold uR
  rw [md_at, if_pos rfl, h1]
  rfl
theorem rp.nw (hl : l.length = n) : rp (pz l k w) n (fun r => r.2.1 = w) := by
  subst hl
  refine ⟨(k, w, [], .inl []), ?_, rfl⟩
  unfold pz
  rw [List.getElem?_append_right (Nat.le_refl _), Nat.sub_self]
  rfl
theorem Cst.rr (h : Cst l n s t M0 M) (g : rp l o (fun r => ∀ t, lpR r.2.2.1 j t = t + q)) : mR M (t + o) j = t + q := by
  obtain ⟨r, h1, h2⟩ := g
  rw [(h.2.2.2.2 o r h1).2.2.1 j]
  exact h2 t
theorem Cst.nn (h : Cst l n s t M0 M) (g : rp l o (fun r => r.2.1 = w)) : mN M (t + o) = w := by
  obtain ⟨r, h1, h2⟩ := g
  rw [(h.2.2.2.2 o r h1).2.1]
  exact h2
def ini_Na (l : List PR) (o n : Nat) : List PR := uI (uR (pz (l) 30 4) o 0 n) o 1 (0)
theorem i_NaF (ht : 0 < t) (h : Cst l n s t M0 M) (k : kd l o 10) : Cv G y_Na_init (d + 1) [vr (t + o)] M (fun M' => (Cst (ini_Na l o n) (n + 1) (s + 4) t M0 M' ∧ kmn l (ini_Na l o n)) ∧ ∀ x, x < t + n → x ≠ t + o → Eqc M M' x) := by
  refine k_Na_init (d := d) h.1 ⟨Nat.add_pos_left ht o, ?_⟩
  intro M2 e2
  have h2 := h.new e2
  rw [h.z]
  refine ⟨h2.kq k.pu, ?_⟩
  intro M5 e5
  have h5 := h2.ur k.pu e5
  intro M7 e7
  have h7 := h5.ui (kmn.ur _ _ k.pu) ⟨by decide, by decide⟩ e7
  refine ⟨⟨h7, fun o' k' u => kmn.ui _ _ (kmn.ur _ _ u.pu)⟩, fun x hx ne => ?_⟩
  have a : Eqc M M2 x := by rw [e2]; exact eqc_new (by rw [h.z]; omega)
  have b : Eqc M2 M5 x := by rw [e5]; exact eqc_ur ne
  have c : Eqc M5 M7 x := by rw [e7]; exact eqc_ui ne
  exact (a.trans b).trans c
theorem rp.na (h : rp l o P) (ne : o ≠ o') : rp (ini_Na l o' n) o P := by
  unfold ini_Na
  exact (((h.pu (k' := 30) (w := 4)).mdd (c := o') (f := fR 0 n) (fun e => absurd e ne)).mdd (c := o') (f := fI 1 0) (fun e => absurd e ne))
def reL : Nat → List PR → Nat → Nat → Nat → List PR
  | 0, l, _, _, _ => l
  | c + 1, l, q, i, n => reL c (uR (ini_Na (pz l 10 0) n (n + 1)) q i n) q (i + 1) (n + 2)
theorem i_Re68 (ht : 0 < t) : ∀ (c i : Nat) (l : List PR) (n s : Nat) (M : mM), i + c = 41 → Cst l n s t M0 M → kd l o 12 → kd l q 34 → (mR M (t + o) 1 = t + q ∧ mN M (t + q) = 41) → o ≠ q → h_Re_init_68 G (d + 1) (t + o) (i : Int) M (fun M' => Cst (reL c l q i n) (n + 2 * c) (s + 6 * c) t M0 M' ∧ kmn l (reL c l q i n)) := by
  intro c
  induction c with
  | zero =>
    intro i l n s M hi h k kq hr ne
    exact k_Re_init_68 h.1 ⟨by omega, by omega⟩ ⟨fun _ => ⟨h, fun _ _ u => u⟩, fun c => absurd (by omega) c⟩
  | succ c ih =>
    intro i l n s M hi h k kq hr ne
    refine k_Re_init_68 h.1 ⟨by omega, by omega⟩ ⟨fun c' => absurd c' (by omega), fun _ => ⟨h.kq k, ?_⟩⟩
    intro M43 e43
    have h43 := h.new e43
    rw [h.z, hr.1]
    refine (i_NaF (d := d) ht h43 (kd.nw h.len)).mono (fun M45 q5 => ?_)
    obtain ⟨⟨h45, g45⟩, f45⟩ := q5
    have kq5 := g45 _ _ kq.pu
    have lo := k.lt
    have lq := kq.lt
    have ll := h.len
    have E : ∀ x, x < t + n → Eqc M M45 x := fun x hx => Eqc.trans (M' := M43) (by rw [e43]; exact eqc_new (by rw [h.z]; omega)) (f45 x (by omega) (by omega))
    have eq5 := E (t + q) (by omega)
    have eo5 := E (t + o) (by omega)
    refine ⟨h45.1, h45.kq kq5, ⟨by omega, by rw [eq5.2.1, hr.2]; omega⟩, h45.kq (g45 _ _ (kd.nw h.len)), ?_⟩
    intro M51 e51
    rw [Int.toNat_natCast] at e51
    have h51 := h45.ur kq5 e51
    have g51 := h51.gg ((kmn.pu.trans g45).trans kmn.ur)
    have e1 : ((i : Int) + 1) = ((i + 1 : Nat) : Int) := by omega
    rw [e1]
    have z := ih (i + 1) _ _ _ M51 (by omega) h51 (g51 _ _ k) (g51 _ _ kq) ⟨by rw [e51, mR_UR, if_neg (fun u => ne (by omega)), eo5.2.2.2.2]; exact hr.1, by rw [e51]; show mN M45 (t + q) = 41; rw [eq5.2.1]; exact hr.2⟩ ne
    exact mWm.mono z (fun r M' u => ⟨u.1, u.2.1.cv (by omega) (by omega), fun o k v => u.2.2 o k (g51 o k v)⟩)
end PID
theorem ii_Na {l : List PR} {n s t o d : Nat} {G : mG} {M0 M : mM} (ht : 0 < t) (h : Cst l n s t M0 M) (k : kd l o 10) : Cv G y_Na_init (d + 1) [vr (t + o)] M (fun M' => Cst (ini_Na l o n) (n + 1) (s + 4) t M0 M' ∧ kmn l (ini_Na l o n)) := by
  refine k_Na_init (d := d + 0) h.1 ⟨Nat.add_pos_left ht o, ?_⟩
  have g : kmn l l := fun _ _ u => u
  intro M2 eM2
  have hM2 := h.new eM2
  have gM2 := hM2.gg (g.trans kmn.pu)
  rw [h.z]
  refine ⟨hM2.kq (gM2 _ _ k), ?_⟩
  intro M5 eM5
  have hM5 := hM2.ur (gM2 _ _ k) eM5
  have gM5 := hM5.gg (gM2.trans kmn.ur)
  intro M7 eM7
  have hM7 := hM5.ui (gM5 _ _ k) ⟨by decide, by decide⟩ eM7
  have gM7 := hM7.gg (gM5.trans kmn.ui)
  exact ⟨hM7.cv (by omega) (by omega), gM7⟩
def ini_Fr (l : List PR) (o n : Nat) : List PR := uI (uR (ini_Na (pz (uR (ini_Na (pz (l) 10 0) n (n + 1)) o 0 n) 10 0) (n + 2) (n + 3)) o 1 (n + 2)) o 2 (1)
theorem ii_Fr {l : List PR} {n s t o d : Nat} {G : mG} {M0 M : mM} (ht : 0 < t) (h : Cst l n s t M0 M) (k : kd l o 11) : Cv G y_Fr_init (d + 2) [vr (t + o)] M (fun M' => Cst (ini_Fr l o n) (n + 4) (s + 12) t M0 M' ∧ kmn l (ini_Fr l o n)) := by
  refine k_Fr_init (d := d + 1) h.1 ⟨Nat.add_pos_left ht o, ?_⟩
  have g : kmn l l := fun _ _ u => u
  intro M2 eM2
  have hM2 := h.new eM2
  have gM2 := hM2.gg (g.trans kmn.pu)
  rw [h.z]
  refine (ii_Na (d := d + 0) ht hM2 (kd.nw h.len)).mono (fun M4 qM4 => ⟨qM4.1.1, ?_⟩)
  have hM4 := qM4.1
  have gM4 := gM2.trans qM4.2
  clear qM4
  refine ⟨hM4.kq (gM4 _ _ k), ?_⟩
  intro M8 eM8
  have hM8 := hM4.ur (gM4 _ _ k) eM8
  have gM8 := hM8.gg (gM4.trans kmn.ur)
  intro M10 eM10
  have hM10 := hM8.new eM10
  have gM10 := hM10.gg (gM8.trans kmn.pu)
  rw [hM8.z]
  refine (ii_Na (d := d + 0) ht hM10 (kd.nw hM8.len)).mono (fun M12 qM12 => ⟨qM12.1.1, ?_⟩)
  have hM12 := qM12.1
  have gM12 := gM10.trans qM12.2
  clear qM12
  refine ⟨hM12.kq (gM12 _ _ k), ?_⟩
  intro M16 eM16
  have hM16 := hM12.ur (gM12 _ _ k) eM16
  have gM16 := hM16.gg (gM12.trans kmn.ur)
  intro M18 eM18
  have hM18 := hM16.ui (gM16 _ _ k) ⟨by decide, by decide⟩ eM18
  have gM18 := hM18.gg (gM16.trans kmn.ui)
  exact ⟨hM18.cv (by omega) (by omega), gM18⟩
def ini_Fs (l : List PR) (o n : Nat) : List PR := uI (uR (pz (l) 35 0) o 0 n) o 1 (0)
theorem ii_Fs {l : List PR} {n s t o d : Nat} {G : mG} {M0 M : mM} (ht : 0 < t) (h : Cst l n s t M0 M) (k : kd l o 13) : Cv G y_Fs_init (d + 1) [vr (t + o)] M (fun M' => Cst (ini_Fs l o n) (n + 1) (s + 0) t M0 M' ∧ kmn l (ini_Fs l o n)) := by
  refine k_Fs_init (d := d + 0) h.1 ⟨Nat.add_pos_left ht o, ?_⟩
  have g : kmn l l := fun _ _ u => u
  intro M2 eM2
  have hM2 := h.new eM2
  have gM2 := hM2.gg (g.trans kmn.pu)
  rw [h.z]
  refine ⟨hM2.kq (gM2 _ _ k), ?_⟩
  intro M5 eM5
  have hM5 := hM2.ur (gM2 _ _ k) eM5
  have gM5 := hM5.gg (gM2.trans kmn.ur)
  intro M7 eM7
  have hM7 := hM5.ui (gM5 _ _ k) ⟨by decide, by decide⟩ eM7
  have gM7 := hM7.gg (gM5.trans kmn.ui)
  exact ⟨hM7.cv (by omega) (by omega), gM7⟩
def ini_Wo (l : List PR) (o n : Nat) : List PR := uR (pz (uR (pz (uR (pz (uR (pz (l) 32 0) o 0 n) 30 128) o 3 (n + 1)) 30 128) o 4 (n + 2)) 30 128) o 5 (n + 3)
theorem ii_Wo {l : List PR} {n s t o d : Nat} {G : mG} {M0 M : mM} (ht : 0 < t) (h : Cst l n s t M0 M) (k : kd l o 2) : Cv G y_Wo_init (d + 1) [vr (t + o)] M (fun M' => Cst (ini_Wo l o n) (n + 4) (s + 384) t M0 M' ∧ kmn l (ini_Wo l o n)) := by
  refine k_Wo_init (d := d + 0) h.1 ⟨Nat.add_pos_left ht o, ?_⟩
  have g : kmn l l := fun _ _ u => u
  intro M2 eM2
  have hM2 := h.new eM2
  have gM2 := hM2.gg (g.trans kmn.pu)
  rw [h.z]
  refine ⟨hM2.kq (gM2 _ _ k), ?_⟩
  intro M5 eM5
  have hM5 := hM2.ur (gM2 _ _ k) eM5
  have gM5 := hM5.gg (gM2.trans kmn.ur)
  intro M7 eM7
  have hM7 := hM5.new eM7
  have gM7 := hM7.gg (gM5.trans kmn.pu)
  rw [hM5.z]
  refine ⟨hM7.kq (gM7 _ _ k), ?_⟩
  intro M10 eM10
  have hM10 := hM7.ur (gM7 _ _ k) eM10
  have gM10 := hM10.gg (gM7.trans kmn.ur)
  intro M12 eM12
  have hM12 := hM10.new eM12
  have gM12 := hM12.gg (gM10.trans kmn.pu)
  rw [hM10.z]
  refine ⟨hM12.kq (gM12 _ _ k), ?_⟩
  intro M15 eM15
  have hM15 := hM12.ur (gM12 _ _ k) eM15
  have gM15 := hM15.gg (gM12.trans kmn.ur)
  intro M17 eM17
  have hM17 := hM15.new eM17
  have gM17 := hM17.gg (gM15.trans kmn.pu)
  rw [hM15.z]
  refine ⟨hM17.kq (gM17 _ _ k), ?_⟩
  intro M20 eM20
  have hM20 := hM17.ur (gM17 _ _ k) eM20
  have gM20 := hM20.gg (gM17.trans kmn.ur)
  exact ⟨hM20.cv (by omega) (by omega), gM20⟩
def ini_RR (l : List PR) (o n : Nat) : List PR := uR (pz (uR (pz (uR (pz (uR (pz (uR (pz (uR (pz (uR (pz (uR (pz (uR (pz (l) 30 336) o 8 n) 30 336) o 9 (n + 1)) 30 336) o 10 (n + 2)) 30 336) o 11 (n + 3)) 31 336) o 13 (n + 4)) 30 72) o 15 (n + 5)) 30 72) o 16 (n + 6)) 30 72) o 17 (n + 7)) 31 72) o 18 (n + 8)
theorem ii_RR {l : List PR} {n s t o d : Nat} {G : mG} {M0 M : mM} (ht : 0 < t) (h : Cst l n s t M0 M) (k : kd l o 4) : Cv G y_RR_init (d + 1) [vr (t + o)] M (fun M' => Cst (ini_RR l o n) (n + 9) (s + 1968) t M0 M' ∧ kmn l (ini_RR l o n)) := by
  refine k_RR_init (d := d + 0) h.1 ⟨Nat.add_pos_left ht o, ?_⟩
  have g : kmn l l := fun _ _ u => u
  intro M2 eM2
  have hM2 := h.new eM2
  have gM2 := hM2.gg (g.trans kmn.pu)
  rw [h.z]
  refine ⟨hM2.kq (gM2 _ _ k), ?_⟩
  intro M5 eM5
  have hM5 := hM2.ur (gM2 _ _ k) eM5
  have gM5 := hM5.gg (gM2.trans kmn.ur)
  intro M7 eM7
  have hM7 := hM5.new eM7
  have gM7 := hM7.gg (gM5.trans kmn.pu)
  rw [hM5.z]
  refine ⟨hM7.kq (gM7 _ _ k), ?_⟩
  intro M10 eM10
  have hM10 := hM7.ur (gM7 _ _ k) eM10
  have gM10 := hM10.gg (gM7.trans kmn.ur)
  intro M12 eM12
  have hM12 := hM10.new eM12
  have gM12 := hM12.gg (gM10.trans kmn.pu)
  rw [hM10.z]
  refine ⟨hM12.kq (gM12 _ _ k), ?_⟩
  intro M15 eM15
  have hM15 := hM12.ur (gM12 _ _ k) eM15
  have gM15 := hM15.gg (gM12.trans kmn.ur)
  intro M17 eM17
  have hM17 := hM15.new eM17
  have gM17 := hM17.gg (gM15.trans kmn.pu)
  rw [hM15.z]
  refine ⟨hM17.kq (gM17 _ _ k), ?_⟩
  intro M20 eM20
  have hM20 := hM17.ur (gM17 _ _ k) eM20
  have gM20 := hM20.gg (gM17.trans kmn.ur)
  intro M22 eM22
  have hM22 := hM20.new eM22
  have gM22 := hM22.gg (gM20.trans kmn.pu)
  rw [hM20.z]
  refine ⟨hM22.kq (gM22 _ _ k), ?_⟩
  intro M25 eM25
  have hM25 := hM22.ur (gM22 _ _ k) eM25
  have gM25 := hM25.gg (gM22.trans kmn.ur)
  intro M27 eM27
  have hM27 := hM25.new eM27
  have gM27 := hM27.gg (gM25.trans kmn.pu)
  rw [hM25.z]
  refine ⟨hM27.kq (gM27 _ _ k), ?_⟩
  intro M30 eM30
  have hM30 := hM27.ur (gM27 _ _ k) eM30
  have gM30 := hM30.gg (gM27.trans kmn.ur)
  intro M32 eM32
  have hM32 := hM30.new eM32
  have gM32 := hM32.gg (gM30.trans kmn.pu)
  rw [hM30.z]
  refine ⟨hM32.kq (gM32 _ _ k), ?_⟩
  intro M35 eM35
  have hM35 := hM32.ur (gM32 _ _ k) eM35
  have gM35 := hM35.gg (gM32.trans kmn.ur)
  intro M37 eM37
  have hM37 := hM35.new eM37
  have gM37 := hM37.gg (gM35.trans kmn.pu)
  rw [hM35.z]
  refine ⟨hM37.kq (gM37 _ _ k), ?_⟩
  intro M40 eM40
  have hM40 := hM37.ur (gM37 _ _ k) eM40
  have gM40 := hM40.gg (gM37.trans kmn.ur)
  intro M42 eM42
  have hM42 := hM40.new eM42
  have gM42 := hM42.gg (gM40.trans kmn.pu)
  rw [hM40.z]
  refine ⟨hM42.kq (gM42 _ _ k), ?_⟩
  intro M45 eM45
  have hM45 := hM42.ur (gM42 _ _ k) eM45
  have gM45 := hM45.gg (gM42.trans kmn.ur)
  exact ⟨hM45.cv (by omega) (by omega), gM45⟩
def ini_Ma (l : List PR) (o n : Nat) : List PR := uR (pz (uR (pz (uR (pz (uR (pz (uR (pz (uI (uR (pz (uR (pz (uR (pz (uR (pz (l) 30 12) o 3 n) 30 12) o 5 (n + 1)) 30 64) o 6 (n + 2)) 30 64) o 7 (n + 3)) o 9 (0)) 30 60) o 10 (n + 4)) 30 60) o 11 (n + 5)) 30 60) o 12 (n + 6)) 30 61) o 13 (n + 7)) 30 61) o 14 (n + 8)
theorem ii_Ma {l : List PR} {n s t o d : Nat} {G : mG} {M0 M : mM} (ht : 0 < t) (h : Cst l n s t M0 M) (k : kd l o 5) : Cv G y_Ma_init (d + 1) [vr (t + o)] M (fun M' => Cst (ini_Ma l o n) (n + 9) (s + 454) t M0 M' ∧ kmn l (ini_Ma l o n)) := by
  refine k_Ma_init (d := d + 0) h.1 ⟨Nat.add_pos_left ht o, ?_⟩
  have g : kmn l l := fun _ _ u => u
  intro M2 eM2
  have hM2 := h.new eM2
  have gM2 := hM2.gg (g.trans kmn.pu)
  rw [h.z]
  refine ⟨hM2.kq (gM2 _ _ k), ?_⟩
  intro M5 eM5
  have hM5 := hM2.ur (gM2 _ _ k) eM5
  have gM5 := hM5.gg (gM2.trans kmn.ur)
  intro M7 eM7
  have hM7 := hM5.new eM7
  have gM7 := hM7.gg (gM5.trans kmn.pu)
  rw [hM5.z]
  refine ⟨hM7.kq (gM7 _ _ k), ?_⟩
  intro M10 eM10
  have hM10 := hM7.ur (gM7 _ _ k) eM10
  have gM10 := hM10.gg (gM7.trans kmn.ur)
  intro M12 eM12
  have hM12 := hM10.new eM12
  have gM12 := hM12.gg (gM10.trans kmn.pu)
  rw [hM10.z]
  refine ⟨hM12.kq (gM12 _ _ k), ?_⟩
  intro M15 eM15
  have hM15 := hM12.ur (gM12 _ _ k) eM15
  have gM15 := hM15.gg (gM12.trans kmn.ur)
  intro M17 eM17
  have hM17 := hM15.new eM17
  have gM17 := hM17.gg (gM15.trans kmn.pu)
  rw [hM15.z]
  refine ⟨hM17.kq (gM17 _ _ k), ?_⟩
  intro M20 eM20
  have hM20 := hM17.ur (gM17 _ _ k) eM20
  have gM20 := hM20.gg (gM17.trans kmn.ur)
  intro M22 eM22
  have hM22 := hM20.ui (gM20 _ _ k) ⟨by decide, by decide⟩ eM22
  have gM22 := hM22.gg (gM20.trans kmn.ui)
  intro M24 eM24
  have hM24 := hM22.new eM24
  have gM24 := hM24.gg (gM22.trans kmn.pu)
  rw [hM22.z]
  refine ⟨hM24.kq (gM24 _ _ k), ?_⟩
  intro M27 eM27
  have hM27 := hM24.ur (gM24 _ _ k) eM27
  have gM27 := hM27.gg (gM24.trans kmn.ur)
  intro M29 eM29
  have hM29 := hM27.new eM29
  have gM29 := hM29.gg (gM27.trans kmn.pu)
  rw [hM27.z]
  refine ⟨hM29.kq (gM29 _ _ k), ?_⟩
  intro M32 eM32
  have hM32 := hM29.ur (gM29 _ _ k) eM32
  have gM32 := hM32.gg (gM29.trans kmn.ur)
  intro M34 eM34
  have hM34 := hM32.new eM34
  have gM34 := hM34.gg (gM32.trans kmn.pu)
  rw [hM32.z]
  refine ⟨hM34.kq (gM34 _ _ k), ?_⟩
  intro M37 eM37
  have hM37 := hM34.ur (gM34 _ _ k) eM37
  have gM37 := hM37.gg (gM34.trans kmn.ur)
  intro M39 eM39
  have hM39 := hM37.new eM39
  have gM39 := hM39.gg (gM37.trans kmn.pu)
  rw [hM37.z]
  refine ⟨hM39.kq (gM39 _ _ k), ?_⟩
  intro M42 eM42
  have hM42 := hM39.ur (gM39 _ _ k) eM42
  have gM42 := hM42.gg (gM39.trans kmn.ur)
  intro M44 eM44
  have hM44 := hM42.new eM44
  have gM44 := hM44.gg (gM42.trans kmn.pu)
  rw [hM42.z]
  refine ⟨hM44.kq (gM44 _ _ k), ?_⟩
  intro M47 eM47
  have hM47 := hM44.ur (gM44 _ _ k) eM47
  have gM47 := hM47.gg (gM44.trans kmn.ur)
  exact ⟨hM47.cv (by omega) (by omega), gM47⟩
def ini_TR (l : List PR) (o n : Nat) : List PR := uR (pz (uR (pz (uR (ini_Ma (pz (uR (ini_RR (pz (l) 4 0) n (n + 1)) o 0 n) 5 0) (n + 10) (n + 11)) o 1 (n + 10)) 30 3) o 5 (n + 20)) 30 3) o 6 (n + 21)
theorem ii_TR {l : List PR} {n s t o d : Nat} {G : mG} {M0 M : mM} (ht : 0 < t) (h : Cst l n s t M0 M) (k : kd l o 3) : Cv G y_TR_init (d + 2) [vr (t + o)] M (fun M' => Cst (ini_TR l o n) (n + 22) (s + 2464) t M0 M' ∧ kmn l (ini_TR l o n)) := by
  refine k_TR_init (d := d + 1) h.1 ⟨Nat.add_pos_left ht o, ?_⟩
  have g : kmn l l := fun _ _ u => u
  intro M2 eM2
  have hM2 := h.new eM2
  have gM2 := hM2.gg (g.trans kmn.pu)
  rw [h.z]
  refine (ii_RR (d := d + 0) ht hM2 (kd.nw h.len)).mono (fun M4 qM4 => ⟨qM4.1.1, ?_⟩)
  have hM4 := qM4.1
  have gM4 := gM2.trans qM4.2
  clear qM4
  refine ⟨hM4.kq (gM4 _ _ k), ?_⟩
  intro M8 eM8
  have hM8 := hM4.ur (gM4 _ _ k) eM8
  have gM8 := hM8.gg (gM4.trans kmn.ur)
  intro M10 eM10
  have hM10 := hM8.new eM10
  have gM10 := hM10.gg (gM8.trans kmn.pu)
  rw [hM8.z]
  refine (ii_Ma (d := d + 0) ht hM10 (kd.nw hM8.len)).mono (fun M12 qM12 => ⟨qM12.1.1, ?_⟩)
  have hM12 := qM12.1
  have gM12 := gM10.trans qM12.2
  clear qM12
  refine ⟨hM12.kq (gM12 _ _ k), ?_⟩
  intro M16 eM16
  have hM16 := hM12.ur (gM12 _ _ k) eM16
  have gM16 := hM16.gg (gM12.trans kmn.ur)
  intro M18 eM18
  have hM18 := hM16.new eM18
  have gM18 := hM18.gg (gM16.trans kmn.pu)
  rw [hM16.z]
  refine ⟨hM18.kq (gM18 _ _ k), ?_⟩
  intro M21 eM21
  have hM21 := hM18.ur (gM18 _ _ k) eM21
  have gM21 := hM21.gg (gM18.trans kmn.ur)
  intro M23 eM23
  have hM23 := hM21.new eM23
  have gM23 := hM23.gg (gM21.trans kmn.pu)
  rw [hM21.z]
  refine ⟨hM23.kq (gM23 _ _ k), ?_⟩
  intro M26 eM26
  have hM26 := hM23.ur (gM23 _ _ k) eM26
  have gM26 := hM26.gg (gM23.trans kmn.ur)
  exact ⟨hM26.cv (by omega) (by omega), gM26⟩
def ini_Pr (l : List PR) (o n : Nat) : List PR := uR (pz (uR (pz (uR (pz (uR (pz (uR (pz (uR (pz (uR (pz (uR (pz (uR (pz (uR (pz (uR (pz (uR (pz (uR (pz (uR (pz (uR (pz (l) 30 128) o 0 n) 30 128) o 1 (n + 1)) 30 12) o 4 (n + 2)) 30 12) o 5 (n + 3)) 30 12) o 6 (n + 4)) 30 60) o 8 (n + 5)) 30 60) o 9 (n + 6)) 30 60) o 10 (n + 7)) 30 60) o 13 (n + 8)) 30 60) o 14 (n + 9)) 30 60) o 15 (n + 10)) 30 61) o 16 (n + 11)) 30 480) o 17 (n + 12)) 30 480) o 18 (n + 13)) 30 480) o 19 (n + 14)
theorem ii_Pr {l : List PR} {n s t o d : Nat} {G : mG} {M0 M : mM} (ht : 0 < t) (h : Cst l n s t M0 M) (k : kd l o 6) : Cv G y_Pr_init (d + 1) [vr (t + o)] M (fun M' => Cst (ini_Pr l o n) (n + 15) (s + 2153) t M0 M' ∧ kmn l (ini_Pr l o n)) := by
  refine k_Pr_init (d := d + 0) h.1 ⟨Nat.add_pos_left ht o, ?_⟩
  have g : kmn l l := fun _ _ u => u
  intro M2 eM2
  have hM2 := h.new eM2
  have gM2 := hM2.gg (g.trans kmn.pu)
  rw [h.z]
  refine ⟨hM2.kq (gM2 _ _ k), ?_⟩
  intro M5 eM5
  have hM5 := hM2.ur (gM2 _ _ k) eM5
  have gM5 := hM5.gg (gM2.trans kmn.ur)
  intro M7 eM7
  have hM7 := hM5.new eM7
  have gM7 := hM7.gg (gM5.trans kmn.pu)
  rw [hM5.z]
  refine ⟨hM7.kq (gM7 _ _ k), ?_⟩
  intro M10 eM10
  have hM10 := hM7.ur (gM7 _ _ k) eM10
  have gM10 := hM10.gg (gM7.trans kmn.ur)
  intro M12 eM12
  have hM12 := hM10.new eM12
  have gM12 := hM12.gg (gM10.trans kmn.pu)
  rw [hM10.z]
  refine ⟨hM12.kq (gM12 _ _ k), ?_⟩
  intro M15 eM15
  have hM15 := hM12.ur (gM12 _ _ k) eM15
  have gM15 := hM15.gg (gM12.trans kmn.ur)
  intro M17 eM17
  have hM17 := hM15.new eM17
  have gM17 := hM17.gg (gM15.trans kmn.pu)
  rw [hM15.z]
  refine ⟨hM17.kq (gM17 _ _ k), ?_⟩
  intro M20 eM20
  have hM20 := hM17.ur (gM17 _ _ k) eM20
  have gM20 := hM20.gg (gM17.trans kmn.ur)
  intro M22 eM22
  have hM22 := hM20.new eM22
  have gM22 := hM22.gg (gM20.trans kmn.pu)
  rw [hM20.z]
  refine ⟨hM22.kq (gM22 _ _ k), ?_⟩
  intro M25 eM25
  have hM25 := hM22.ur (gM22 _ _ k) eM25
  have gM25 := hM25.gg (gM22.trans kmn.ur)
  intro M27 eM27
  have hM27 := hM25.new eM27
  have gM27 := hM27.gg (gM25.trans kmn.pu)
  rw [hM25.z]
  refine ⟨hM27.kq (gM27 _ _ k), ?_⟩
  intro M30 eM30
  have hM30 := hM27.ur (gM27 _ _ k) eM30
  have gM30 := hM30.gg (gM27.trans kmn.ur)
  intro M32 eM32
  have hM32 := hM30.new eM32
  have gM32 := hM32.gg (gM30.trans kmn.pu)
  rw [hM30.z]
  refine ⟨hM32.kq (gM32 _ _ k), ?_⟩
  intro M35 eM35
  have hM35 := hM32.ur (gM32 _ _ k) eM35
  have gM35 := hM35.gg (gM32.trans kmn.ur)
  intro M37 eM37
  have hM37 := hM35.new eM37
  have gM37 := hM37.gg (gM35.trans kmn.pu)
  rw [hM35.z]
  refine ⟨hM37.kq (gM37 _ _ k), ?_⟩
  intro M40 eM40
  have hM40 := hM37.ur (gM37 _ _ k) eM40
  have gM40 := hM40.gg (gM37.trans kmn.ur)
  intro M42 eM42
  have hM42 := hM40.new eM42
  have gM42 := hM42.gg (gM40.trans kmn.pu)
  rw [hM40.z]
  refine ⟨hM42.kq (gM42 _ _ k), ?_⟩
  intro M45 eM45
  have hM45 := hM42.ur (gM42 _ _ k) eM45
  have gM45 := hM45.gg (gM42.trans kmn.ur)
  intro M47 eM47
  have hM47 := hM45.new eM47
  have gM47 := hM47.gg (gM45.trans kmn.pu)
  rw [hM45.z]
  refine ⟨hM47.kq (gM47 _ _ k), ?_⟩
  intro M50 eM50
  have hM50 := hM47.ur (gM47 _ _ k) eM50
  have gM50 := hM50.gg (gM47.trans kmn.ur)
  intro M52 eM52
  have hM52 := hM50.new eM52
  have gM52 := hM52.gg (gM50.trans kmn.pu)
  rw [hM50.z]
  refine ⟨hM52.kq (gM52 _ _ k), ?_⟩
  intro M55 eM55
  have hM55 := hM52.ur (gM52 _ _ k) eM55
  have gM55 := hM55.gg (gM52.trans kmn.ur)
  intro M57 eM57
  have hM57 := hM55.new eM57
  have gM57 := hM57.gg (gM55.trans kmn.pu)
  rw [hM55.z]
  refine ⟨hM57.kq (gM57 _ _ k), ?_⟩
  intro M60 eM60
  have hM60 := hM57.ur (gM57 _ _ k) eM60
  have gM60 := hM60.gg (gM57.trans kmn.ur)
  intro M62 eM62
  have hM62 := hM60.new eM62
  have gM62 := hM62.gg (gM60.trans kmn.pu)
  rw [hM60.z]
  refine ⟨hM62.kq (gM62 _ _ k), ?_⟩
  intro M65 eM65
  have hM65 := hM62.ur (gM62 _ _ k) eM65
  have gM65 := hM65.gg (gM62.trans kmn.ur)
  intro M67 eM67
  have hM67 := hM65.new eM67
  have gM67 := hM67.gg (gM65.trans kmn.pu)
  rw [hM65.z]
  refine ⟨hM67.kq (gM67 _ _ k), ?_⟩
  intro M70 eM70
  have hM70 := hM67.ur (gM67 _ _ k) eM70
  have gM70 := hM70.gg (gM67.trans kmn.ur)
  intro M72 eM72
  have hM72 := hM70.new eM72
  have gM72 := hM72.gg (gM70.trans kmn.pu)
  rw [hM70.z]
  refine ⟨hM72.kq (gM72 _ _ k), ?_⟩
  intro M75 eM75
  have hM75 := hM72.ur (gM72 _ _ k) eM75
  have gM75 := hM75.gg (gM72.trans kmn.ur)
  exact ⟨hM75.cv (by omega) (by omega), gM75⟩
def ini_Ga (l : List PR) (o n : Nat) : List PR := uR (pz (uR (pz (uR (pz (uR (ini_Ma (pz (uR (pz (uR (pz (uR (pz (uR (pz (uR (pz (uR (pz (uR (pz (uR (pz (uR (pz (l) 30 6144) o 1 n) 30 512) o 2 (n + 1)) 30 512) o 3 (n + 2)) 30 513) o 4 (n + 3)) 30 4097) o 5 (n + 4)) 30 4097) o 6 (n + 5)) 30 4098) o 7 (n + 6)) 30 4096) o 8 (n + 7)) 30 4096) o 9 (n + 8)) 5 0) (n + 9) (n + 10)) o 15 (n + 9)) 30 1024) o 16 (n + 19)) 30 8) o 17 (n + 20)) 30 8) o 18 (n + 21)
theorem ii_Ga {l : List PR} {n s t o d : Nat} {G : mG} {M0 M : mM} (ht : 0 < t) (h : Cst l n s t M0 M) (k : kd l o 7) : Cv G y_Ga_init (d + 2) [vr (t + o)] M (fun M' => Cst (ini_Ga l o n) (n + 22) (s + 29675) t M0 M' ∧ kmn l (ini_Ga l o n)) := by
  refine k_Ga_init (d := d + 1) h.1 ⟨Nat.add_pos_left ht o, ?_⟩
  have g : kmn l l := fun _ _ u => u
  intro M2 eM2
  have hM2 := h.new eM2
  have gM2 := hM2.gg (g.trans kmn.pu)
  rw [h.z]
  refine ⟨hM2.kq (gM2 _ _ k), ?_⟩
  intro M5 eM5
  have hM5 := hM2.ur (gM2 _ _ k) eM5
  have gM5 := hM5.gg (gM2.trans kmn.ur)
  intro M7 eM7
  have hM7 := hM5.new eM7
  have gM7 := hM7.gg (gM5.trans kmn.pu)
  rw [hM5.z]
  refine ⟨hM7.kq (gM7 _ _ k), ?_⟩
  intro M10 eM10
  have hM10 := hM7.ur (gM7 _ _ k) eM10
  have gM10 := hM10.gg (gM7.trans kmn.ur)
  intro M12 eM12
  have hM12 := hM10.new eM12
  have gM12 := hM12.gg (gM10.trans kmn.pu)
  rw [hM10.z]
  refine ⟨hM12.kq (gM12 _ _ k), ?_⟩
  intro M15 eM15
  have hM15 := hM12.ur (gM12 _ _ k) eM15
  have gM15 := hM15.gg (gM12.trans kmn.ur)
  intro M17 eM17
  have hM17 := hM15.new eM17
  have gM17 := hM17.gg (gM15.trans kmn.pu)
  rw [hM15.z]
  refine ⟨hM17.kq (gM17 _ _ k), ?_⟩
  intro M20 eM20
  have hM20 := hM17.ur (gM17 _ _ k) eM20
  have gM20 := hM20.gg (gM17.trans kmn.ur)
  intro M22 eM22
  have hM22 := hM20.new eM22
  have gM22 := hM22.gg (gM20.trans kmn.pu)
  rw [hM20.z]
  refine ⟨hM22.kq (gM22 _ _ k), ?_⟩
  intro M25 eM25
  have hM25 := hM22.ur (gM22 _ _ k) eM25
  have gM25 := hM25.gg (gM22.trans kmn.ur)
  intro M27 eM27
  have hM27 := hM25.new eM27
  have gM27 := hM27.gg (gM25.trans kmn.pu)
  rw [hM25.z]
  refine ⟨hM27.kq (gM27 _ _ k), ?_⟩
  intro M30 eM30
  have hM30 := hM27.ur (gM27 _ _ k) eM30
  have gM30 := hM30.gg (gM27.trans kmn.ur)
  intro M32 eM32
  have hM32 := hM30.new eM32
  have gM32 := hM32.gg (gM30.trans kmn.pu)
  rw [hM30.z]
  refine ⟨hM32.kq (gM32 _ _ k), ?_⟩
  intro M35 eM35
  have hM35 := hM32.ur (gM32 _ _ k) eM35
  have gM35 := hM35.gg (gM32.trans kmn.ur)
  intro M37 eM37
  have hM37 := hM35.new eM37
  have gM37 := hM37.gg (gM35.trans kmn.pu)
  rw [hM35.z]
  refine ⟨hM37.kq (gM37 _ _ k), ?_⟩
  intro M40 eM40
  have hM40 := hM37.ur (gM37 _ _ k) eM40
  have gM40 := hM40.gg (gM37.trans kmn.ur)
  intro M42 eM42
  have hM42 := hM40.new eM42
  have gM42 := hM42.gg (gM40.trans kmn.pu)
  rw [hM40.z]
  refine ⟨hM42.kq (gM42 _ _ k), ?_⟩
  intro M45 eM45
  have hM45 := hM42.ur (gM42 _ _ k) eM45
  have gM45 := hM45.gg (gM42.trans kmn.ur)
  intro M47 eM47
  have hM47 := hM45.new eM47
  have gM47 := hM47.gg (gM45.trans kmn.pu)
  rw [hM45.z]
  refine (ii_Ma (d := d + 0) ht hM47 (kd.nw hM45.len)).mono (fun M49 qM49 => ⟨qM49.1.1, ?_⟩)
  have hM49 := qM49.1
  have gM49 := gM47.trans qM49.2
  clear qM49
  refine ⟨hM49.kq (gM49 _ _ k), ?_⟩
  intro M53 eM53
  have hM53 := hM49.ur (gM49 _ _ k) eM53
  have gM53 := hM53.gg (gM49.trans kmn.ur)
  intro M55 eM55
  have hM55 := hM53.new eM55
  have gM55 := hM55.gg (gM53.trans kmn.pu)
  rw [hM53.z]
  refine ⟨hM55.kq (gM55 _ _ k), ?_⟩
  intro M58 eM58
  have hM58 := hM55.ur (gM55 _ _ k) eM58
  have gM58 := hM58.gg (gM55.trans kmn.ur)
  intro M60 eM60
  have hM60 := hM58.new eM60
  have gM60 := hM60.gg (gM58.trans kmn.pu)
  rw [hM58.z]
  refine ⟨hM60.kq (gM60 _ _ k), ?_⟩
  intro M63 eM63
  have hM63 := hM60.ur (gM60 _ _ k) eM63
  have gM63 := hM63.gg (gM60.trans kmn.ur)
  intro M65 eM65
  have hM65 := hM63.new eM65
  have gM65 := hM65.gg (gM63.trans kmn.pu)
  rw [hM63.z]
  refine ⟨hM65.kq (gM65 _ _ k), ?_⟩
  intro M68 eM68
  have hM68 := hM65.ur (gM65 _ _ k) eM68
  have gM68 := hM68.gg (gM65.trans kmn.ur)
  exact ⟨hM68.cv (by omega) (by omega), gM68⟩
def ini_Sc (l : List PR) (o n : Nat) : List PR := uR (ini_Fr (pz (uR (ini_Fr (pz (uR (ini_Na (pz (uR (ini_Na (pz (uR (pz (uR (ini_Na (pz (uR (ini_Na (pz (uR (ini_Na (pz (uR (ini_Na (pz (uR (ini_Na (pz (uR (ini_Na (pz (l) 10 0) n (n + 1)) o 0 n) 10 0) (n + 2) (n + 3)) o 1 (n + 2)) 10 0) (n + 4) (n + 5)) o 2 (n + 4)) 10 0) (n + 6) (n + 7)) o 3 (n + 6)) 10 0) (n + 8) (n + 9)) o 4 (n + 8)) 10 0) (n + 10) (n + 11)) o 5 (n + 10)) 33 4) o 6 (n + 12)) 10 0) (n + 13) (n + 14)) o 7 (n + 13)) 10 0) (n + 15) (n + 16)) o 8 (n + 15)) 11 0) (n + 17) (n + 18)) o 9 (n + 17)) 11 0) (n + 22) (n + 23)) o 10 (n + 22)
theorem ii_Sc {l : List PR} {n s t o d : Nat} {G : mG} {M0 M : mM} (ht : 0 < t) (h : Cst l n s t M0 M) (k : kd l o 9) : Cv G y_Sc_init (d + 3) [vr (t + o)] M (fun M' => Cst (ini_Sc l o n) (n + 27) (s + 82) t M0 M' ∧ kmn l (ini_Sc l o n)) := by
  refine k_Sc_init (d := d + 2) h.1 ⟨Nat.add_pos_left ht o, ?_⟩
  have g : kmn l l := fun _ _ u => u
  intro M2 eM2
  have hM2 := h.new eM2
  have gM2 := hM2.gg (g.trans kmn.pu)
  rw [h.z]
  refine (ii_Na (d := d + 1) ht hM2 (kd.nw h.len)).mono (fun M4 qM4 => ⟨qM4.1.1, ?_⟩)
  have hM4 := qM4.1
  have gM4 := gM2.trans qM4.2
  clear qM4
  refine ⟨hM4.kq (gM4 _ _ k), ?_⟩
  intro M8 eM8
  have hM8 := hM4.ur (gM4 _ _ k) eM8
  have gM8 := hM8.gg (gM4.trans kmn.ur)
  intro M10 eM10
  have hM10 := hM8.new eM10
  have gM10 := hM10.gg (gM8.trans kmn.pu)
  rw [hM8.z]
  refine (ii_Na (d := d + 1) ht hM10 (kd.nw hM8.len)).mono (fun M12 qM12 => ⟨qM12.1.1, ?_⟩)
  have hM12 := qM12.1
  have gM12 := gM10.trans qM12.2
  clear qM12
  refine ⟨hM12.kq (gM12 _ _ k), ?_⟩
  intro M16 eM16
  have hM16 := hM12.ur (gM12 _ _ k) eM16
  have gM16 := hM16.gg (gM12.trans kmn.ur)
  intro M18 eM18
  have hM18 := hM16.new eM18
  have gM18 := hM18.gg (gM16.trans kmn.pu)
  rw [hM16.z]
  refine (ii_Na (d := d + 1) ht hM18 (kd.nw hM16.len)).mono (fun M20 qM20 => ⟨qM20.1.1, ?_⟩)
  have hM20 := qM20.1
  have gM20 := gM18.trans qM20.2
  clear qM20
  refine ⟨hM20.kq (gM20 _ _ k), ?_⟩
  intro M24 eM24
  have hM24 := hM20.ur (gM20 _ _ k) eM24
  have gM24 := hM24.gg (gM20.trans kmn.ur)
  intro M26 eM26
  have hM26 := hM24.new eM26
  have gM26 := hM26.gg (gM24.trans kmn.pu)
  rw [hM24.z]
  refine (ii_Na (d := d + 1) ht hM26 (kd.nw hM24.len)).mono (fun M28 qM28 => ⟨qM28.1.1, ?_⟩)
  have hM28 := qM28.1
  have gM28 := gM26.trans qM28.2
  clear qM28
  refine ⟨hM28.kq (gM28 _ _ k), ?_⟩
  intro M32 eM32
  have hM32 := hM28.ur (gM28 _ _ k) eM32
  have gM32 := hM32.gg (gM28.trans kmn.ur)
  intro M34 eM34
  have hM34 := hM32.new eM34
  have gM34 := hM34.gg (gM32.trans kmn.pu)
  rw [hM32.z]
  refine (ii_Na (d := d + 1) ht hM34 (kd.nw hM32.len)).mono (fun M36 qM36 => ⟨qM36.1.1, ?_⟩)
  have hM36 := qM36.1
  have gM36 := gM34.trans qM36.2
  clear qM36
  refine ⟨hM36.kq (gM36 _ _ k), ?_⟩
  intro M40 eM40
  have hM40 := hM36.ur (gM36 _ _ k) eM40
  have gM40 := hM40.gg (gM36.trans kmn.ur)
  intro M42 eM42
  have hM42 := hM40.new eM42
  have gM42 := hM42.gg (gM40.trans kmn.pu)
  rw [hM40.z]
  refine (ii_Na (d := d + 1) ht hM42 (kd.nw hM40.len)).mono (fun M44 qM44 => ⟨qM44.1.1, ?_⟩)
  have hM44 := qM44.1
  have gM44 := gM42.trans qM44.2
  clear qM44
  refine ⟨hM44.kq (gM44 _ _ k), ?_⟩
  intro M48 eM48
  have hM48 := hM44.ur (gM44 _ _ k) eM48
  have gM48 := hM48.gg (gM44.trans kmn.ur)
  intro M50 eM50
  have hM50 := hM48.new eM50
  have gM50 := hM50.gg (gM48.trans kmn.pu)
  rw [hM48.z]
  refine ⟨hM50.kq (gM50 _ _ k), ?_⟩
  intro M53 eM53
  have hM53 := hM50.ur (gM50 _ _ k) eM53
  have gM53 := hM53.gg (gM50.trans kmn.ur)
  intro M55 eM55
  have hM55 := hM53.new eM55
  have gM55 := hM55.gg (gM53.trans kmn.pu)
  rw [hM53.z]
  refine (ii_Na (d := d + 1) ht hM55 (kd.nw hM53.len)).mono (fun M57 qM57 => ⟨qM57.1.1, ?_⟩)
  have hM57 := qM57.1
  have gM57 := gM55.trans qM57.2
  clear qM57
  refine ⟨hM57.kq (gM57 _ _ k), ?_⟩
  intro M61 eM61
  have hM61 := hM57.ur (gM57 _ _ k) eM61
  have gM61 := hM61.gg (gM57.trans kmn.ur)
  intro M63 eM63
  have hM63 := hM61.new eM63
  have gM63 := hM63.gg (gM61.trans kmn.pu)
  rw [hM61.z]
  refine (ii_Na (d := d + 1) ht hM63 (kd.nw hM61.len)).mono (fun M65 qM65 => ⟨qM65.1.1, ?_⟩)
  have hM65 := qM65.1
  have gM65 := gM63.trans qM65.2
  clear qM65
  refine ⟨hM65.kq (gM65 _ _ k), ?_⟩
  intro M69 eM69
  have hM69 := hM65.ur (gM65 _ _ k) eM69
  have gM69 := hM69.gg (gM65.trans kmn.ur)
  intro M71 eM71
  have hM71 := hM69.new eM71
  have gM71 := hM71.gg (gM69.trans kmn.pu)
  rw [hM69.z]
  refine (ii_Fr (d := d + 0) ht hM71 (kd.nw hM69.len)).mono (fun M73 qM73 => ⟨qM73.1.1, ?_⟩)
  have hM73 := qM73.1
  have gM73 := gM71.trans qM73.2
  clear qM73
  refine ⟨hM73.kq (gM73 _ _ k), ?_⟩
  intro M77 eM77
  have hM77 := hM73.ur (gM73 _ _ k) eM77
  have gM77 := hM77.gg (gM73.trans kmn.ur)
  intro M79 eM79
  have hM79 := hM77.new eM79
  have gM79 := hM79.gg (gM77.trans kmn.pu)
  rw [hM77.z]
  refine (ii_Fr (d := d + 0) ht hM79 (kd.nw hM77.len)).mono (fun M81 qM81 => ⟨qM81.1.1, ?_⟩)
  have hM81 := qM81.1
  have gM81 := gM79.trans qM81.2
  clear qM81
  refine ⟨hM81.kq (gM81 _ _ k), ?_⟩
  intro M85 eM85
  have hM85 := hM81.ur (gM81 _ _ k) eM85
  have gM85 := hM85.gg (gM81.trans kmn.ur)
  exact ⟨hM85.cv (by omega) (by omega), gM85⟩
def ini_Re (l : List PR) (o n : Nat) : List PR := reL 41 (uR (ini_Na (pz (uR (pz (uR (pz (uR (pz (uR (pz (uR (pz (uR (pz (l) 30 1640) o 0 n) 34 41) o 1 (n + 1)) 30 1640) o 2 (n + 2)) 30 40) o 3 (n + 3)) 30 41) o 4 (n + 4)) 30 41) o 5 (n + 5)) 10 0) (n + 6) (n + 7)) o 6 (n + 6)) (n + 1) 0 (n + 8)
theorem ii_Re {l : List PR} {n s t o d : Nat} {G : mG} {M0 M : mM} (ht : 0 < t) (h : Cst l n s t M0 M) (k : kd l o 12) : Cv G y_Re_init (d + 2) [vr (t + o)] M (fun M' => Cst (ini_Re l o n) (n + 90) (s + 3695) t M0 M' ∧ kmn l (ini_Re l o n)) := by
  refine k_Re_init (d := d + 1) h.1 ⟨Nat.add_pos_left ht o, ?_⟩
  have g : kmn l l := fun _ _ u => u
  intro M2 eM2
  have hM2 := h.new eM2
  have gM2 := hM2.gg (g.trans kmn.pu)
  rw [h.z]
  refine ⟨hM2.kq (gM2 _ _ k), ?_⟩
  intro M5 eM5
  have hM5 := hM2.ur (gM2 _ _ k) eM5
  have gM5 := hM5.gg (gM2.trans kmn.ur)
  intro M7 eM7
  have hM7 := hM5.new eM7
  have gM7 := hM7.gg (gM5.trans kmn.pu)
  have kqM7 := kd.nw (k := 34) (w := 41) hM5.len
  have wqM7 := rp.nw (k := 34) (w := 41) hM5.len
  rw [hM5.z]
  refine ⟨hM7.kq (gM7 _ _ k), ?_⟩
  intro M10 eM10
  have hM10 := hM7.ur (gM7 _ _ k) eM10
  have gM10 := hM10.gg (gM7.trans kmn.ur)
  have kqM10 := kmn.ur (o := o) (j := 1) (q := n + 1) _ _ kqM7
  have wqM10 := rp.mdd (c := o) (f := fR 1 (n + 1)) wqM7 (fun _ _ u => u)
  have roM10 := rp.set (j := 1) (q := n + 1) (gM7 _ _ k)
  intro M12 eM12
  have hM12 := hM10.new eM12
  have gM12 := hM12.gg (gM10.trans kmn.pu)
  have kqM12 := kmn.pu (k' := 30) (w := 1640) _ _ kqM10
  have wqM12 := rp.pu (k' := 30) (w := 1640) wqM10
  have roM12 := rp.pu (k' := 30) (w := 1640) roM10
  rw [hM10.z]
  refine ⟨hM12.kq (gM12 _ _ k), ?_⟩
  intro M15 eM15
  have hM15 := hM12.ur (gM12 _ _ k) eM15
  have gM15 := hM15.gg (gM12.trans kmn.ur)
  have kqM15 := kmn.ur (o := o) (j := 2) (q := n + 2) _ _ kqM12
  have wqM15 := rp.mdd (c := o) (f := fR 2 (n + 2)) wqM12 (fun _ _ u => u)
  have roM15 := rp.mdd (c := o) (f := fR 2 (n + 2)) roM12 (fun _ r u t9 => by show (if (1 : Nat) = 2 then _ else _) = _; rw [if_neg (by decide)]; exact u t9)
  intro M17 eM17
  have hM17 := hM15.new eM17
  have gM17 := hM17.gg (gM15.trans kmn.pu)
  have kqM17 := kmn.pu (k' := 30) (w := 40) _ _ kqM15
  have wqM17 := rp.pu (k' := 30) (w := 40) wqM15
  have roM17 := rp.pu (k' := 30) (w := 40) roM15
  rw [hM15.z]
  refine ⟨hM17.kq (gM17 _ _ k), ?_⟩
  intro M20 eM20
  have hM20 := hM17.ur (gM17 _ _ k) eM20
  have gM20 := hM20.gg (gM17.trans kmn.ur)
  have kqM20 := kmn.ur (o := o) (j := 3) (q := n + 3) _ _ kqM17
  have wqM20 := rp.mdd (c := o) (f := fR 3 (n + 3)) wqM17 (fun _ _ u => u)
  have roM20 := rp.mdd (c := o) (f := fR 3 (n + 3)) roM17 (fun _ r u t9 => by show (if (1 : Nat) = 3 then _ else _) = _; rw [if_neg (by decide)]; exact u t9)
  intro M22 eM22
  have hM22 := hM20.new eM22
  have gM22 := hM22.gg (gM20.trans kmn.pu)
  have kqM22 := kmn.pu (k' := 30) (w := 41) _ _ kqM20
  have wqM22 := rp.pu (k' := 30) (w := 41) wqM20
  have roM22 := rp.pu (k' := 30) (w := 41) roM20
  rw [hM20.z]
  refine ⟨hM22.kq (gM22 _ _ k), ?_⟩
  intro M25 eM25
  have hM25 := hM22.ur (gM22 _ _ k) eM25
  have gM25 := hM25.gg (gM22.trans kmn.ur)
  have kqM25 := kmn.ur (o := o) (j := 4) (q := n + 4) _ _ kqM22
  have wqM25 := rp.mdd (c := o) (f := fR 4 (n + 4)) wqM22 (fun _ _ u => u)
  have roM25 := rp.mdd (c := o) (f := fR 4 (n + 4)) roM22 (fun _ r u t9 => by show (if (1 : Nat) = 4 then _ else _) = _; rw [if_neg (by decide)]; exact u t9)
  intro M27 eM27
  have hM27 := hM25.new eM27
  have gM27 := hM27.gg (gM25.trans kmn.pu)
  have kqM27 := kmn.pu (k' := 30) (w := 41) _ _ kqM25
  have wqM27 := rp.pu (k' := 30) (w := 41) wqM25
  have roM27 := rp.pu (k' := 30) (w := 41) roM25
  rw [hM25.z]
  refine ⟨hM27.kq (gM27 _ _ k), ?_⟩
  intro M30 eM30
  have hM30 := hM27.ur (gM27 _ _ k) eM30
  have gM30 := hM30.gg (gM27.trans kmn.ur)
  have kqM30 := kmn.ur (o := o) (j := 5) (q := n + 5) _ _ kqM27
  have wqM30 := rp.mdd (c := o) (f := fR 5 (n + 5)) wqM27 (fun _ _ u => u)
  have roM30 := rp.mdd (c := o) (f := fR 5 (n + 5)) roM27 (fun _ r u t9 => by show (if (1 : Nat) = 5 then _ else _) = _; rw [if_neg (by decide)]; exact u t9)
  intro M32 eM32
  have hM32 := hM30.new eM32
  have gM32 := hM32.gg (gM30.trans kmn.pu)
  have kqM32 := kmn.pu (k' := 10) (w := 0) _ _ kqM30
  have wqM32 := rp.pu (k' := 10) (w := 0) wqM30
  have roM32 := rp.pu (k' := 10) (w := 0) roM30
  rw [hM30.z]
  refine (ii_Na (d := d + 0) ht hM32 (kd.nw hM30.len)).mono (fun M34 qM34 => ⟨qM34.1.1, ?_⟩)
  have hM34 := qM34.1
  have gM34 := gM32.trans qM34.2
  have kqM34 := qM34.2 _ _ kqM32
  have wqM34 := wqM32.na (o' := n + 6) (n := n + 7) (by omega)
  have roM34 := roM32.na (o' := n + 6) (n := n + 7) (by have := k.lt; have := h.len; omega)
  clear qM34
  refine ⟨hM34.kq (gM34 _ _ k), ?_⟩
  intro M38 eM38
  have hM38 := hM34.ur (gM34 _ _ k) eM38
  have gM38 := hM38.gg (gM34.trans kmn.ur)
  have kqM38 := kmn.ur (o := o) (j := 6) (q := n + 6) _ _ kqM34
  have wqM38 := rp.mdd (c := o) (f := fR 6 (n + 6)) wqM34 (fun _ _ u => u)
  have roM38 := rp.mdd (c := o) (f := fR 6 (n + 6)) roM34 (fun _ r u t9 => by show (if (1 : Nat) = 6 then _ else _) = _; rw [if_neg (by decide)]; exact u t9)
  exact mWm.mono (i_Re68 (d := d) ht 41 0 _ _ _ M38 rfl hM38 (gM38 _ _ k) kqM38 ⟨hM38.rr roM38, hM38.nn wqM38⟩ (by have := k.lt; have := h.len; omega)) (fun r M' u => ⟨u.1, u.2.1.cv (by omega) (by omega), gM38.trans u.2.2⟩)
def ini_So (l : List PR) (o o1 n : Nat) : List PR := uR (uR (ini_Fr (pz (uR (pz (uR (pz (uR (pz (uR (pz (uR (pz (uR (pz (uR (pz (uR (pz (uR (ini_Re (pz (uR (pz (uR (pz (uR (ini_Sc (pz (l) 9 0) n (n + 1)) o 0 n) 30 512) o 1 (n + 28)) 30 512) o 2 (n + 29)) 12 0) (n + 30) (n + 31)) o 4 (n + 30)) 30 512) o 5 (n + 121)) 30 512) o 6 (n + 122)) 30 512) o 7 (n + 123)) 30 40) o 8 (n + 124)) 30 40) o 9 (n + 125)) 30 0) o 11 (n + 126)) 31 4097) o 15 (n + 127)) 30 512) o 16 (n + 128)) 11 0) (n + 129) (n + 130)) o 17 (n + 129)) o 3 o1
theorem ii_So {l : List PR} {n s t o o1 d : Nat} {G : mG} {M0 M : mM} (ht : 0 < t) (h : Cst l n s t M0 M) (k : kd l o 8) : Cv G y_So_init (d + 4) [vr (t + o), vr (t + o1)] M (fun M' => Cst (ini_So l o o1 n) (n + 134) (s + 11059) t M0 M' ∧ kmn l (ini_So l o o1 n)) := by
  refine k_So_init (d := d + 3) h.1 ⟨Nat.add_pos_left ht o, ?_⟩
  have g : kmn l l := fun _ _ u => u
  intro M2 eM2
  have hM2 := h.new eM2
  have gM2 := hM2.gg (g.trans kmn.pu)
  rw [h.z]
  refine (ii_Sc (d := d + 0) ht hM2 (kd.nw h.len)).mono (fun M4 qM4 => ⟨qM4.1.1, ?_⟩)
  have hM4 := qM4.1
  have gM4 := gM2.trans qM4.2
  clear qM4
  refine ⟨hM4.kq (gM4 _ _ k), ?_⟩
  intro M8 eM8
  have hM8 := hM4.ur (gM4 _ _ k) eM8
  have gM8 := hM8.gg (gM4.trans kmn.ur)
  intro M10 eM10
  have hM10 := hM8.new eM10
  have gM10 := hM10.gg (gM8.trans kmn.pu)
  rw [hM8.z]
  refine ⟨hM10.kq (gM10 _ _ k), ?_⟩
  intro M13 eM13
  have hM13 := hM10.ur (gM10 _ _ k) eM13
  have gM13 := hM13.gg (gM10.trans kmn.ur)
  intro M15 eM15
  have hM15 := hM13.new eM15
  have gM15 := hM15.gg (gM13.trans kmn.pu)
  rw [hM13.z]
  refine ⟨hM15.kq (gM15 _ _ k), ?_⟩
  intro M18 eM18
  have hM18 := hM15.ur (gM15 _ _ k) eM18
  have gM18 := hM18.gg (gM15.trans kmn.ur)
  intro M20 eM20
  have hM20 := hM18.new eM20
  have gM20 := hM20.gg (gM18.trans kmn.pu)
  rw [hM18.z]
  refine (ii_Re (d := d + 1) ht hM20 (kd.nw hM18.len)).mono (fun M22 qM22 => ⟨qM22.1.1, ?_⟩)
  have hM22 := qM22.1
  have gM22 := gM20.trans qM22.2
  clear qM22
  refine ⟨hM22.kq (gM22 _ _ k), ?_⟩
  intro M26 eM26
  have hM26 := hM22.ur (gM22 _ _ k) eM26
  have gM26 := hM26.gg (gM22.trans kmn.ur)
  intro M28 eM28
  have hM28 := hM26.new eM28
  have gM28 := hM28.gg (gM26.trans kmn.pu)
  rw [hM26.z]
  refine ⟨hM28.kq (gM28 _ _ k), ?_⟩
  intro M31 eM31
  have hM31 := hM28.ur (gM28 _ _ k) eM31
  have gM31 := hM31.gg (gM28.trans kmn.ur)
  intro M33 eM33
  have hM33 := hM31.new eM33
  have gM33 := hM33.gg (gM31.trans kmn.pu)
  rw [hM31.z]
  refine ⟨hM33.kq (gM33 _ _ k), ?_⟩
  intro M36 eM36
  have hM36 := hM33.ur (gM33 _ _ k) eM36
  have gM36 := hM36.gg (gM33.trans kmn.ur)
  intro M38 eM38
  have hM38 := hM36.new eM38
  have gM38 := hM38.gg (gM36.trans kmn.pu)
  rw [hM36.z]
  refine ⟨hM38.kq (gM38 _ _ k), ?_⟩
  intro M41 eM41
  have hM41 := hM38.ur (gM38 _ _ k) eM41
  have gM41 := hM41.gg (gM38.trans kmn.ur)
  intro M43 eM43
  have hM43 := hM41.new eM43
  have gM43 := hM43.gg (gM41.trans kmn.pu)
  rw [hM41.z]
  refine ⟨hM43.kq (gM43 _ _ k), ?_⟩
  intro M46 eM46
  have hM46 := hM43.ur (gM43 _ _ k) eM46
  have gM46 := hM46.gg (gM43.trans kmn.ur)
  intro M48 eM48
  have hM48 := hM46.new eM48
  have gM48 := hM48.gg (gM46.trans kmn.pu)
  rw [hM46.z]
  refine ⟨hM48.kq (gM48 _ _ k), ?_⟩
  intro M51 eM51
  have hM51 := hM48.ur (gM48 _ _ k) eM51
  have gM51 := hM51.gg (gM48.trans kmn.ur)
  intro M53 eM53
  have hM53 := hM51.new eM53
  have gM53 := hM53.gg (gM51.trans kmn.pu)
  rw [hM51.z]
  refine ⟨hM53.kq (gM53 _ _ k), ?_⟩
  intro M56 eM56
  have hM56 := hM53.ur (gM53 _ _ k) eM56
  have gM56 := hM56.gg (gM53.trans kmn.ur)
  intro M58 eM58
  have hM58 := hM56.new eM58
  have gM58 := hM58.gg (gM56.trans kmn.pu)
  rw [hM56.z]
  refine ⟨hM58.kq (gM58 _ _ k), ?_⟩
  intro M61 eM61
  have hM61 := hM58.ur (gM58 _ _ k) eM61
  have gM61 := hM61.gg (gM58.trans kmn.ur)
  intro M63 eM63
  have hM63 := hM61.new eM63
  have gM63 := hM63.gg (gM61.trans kmn.pu)
  rw [hM61.z]
  refine ⟨hM63.kq (gM63 _ _ k), ?_⟩
  intro M66 eM66
  have hM66 := hM63.ur (gM63 _ _ k) eM66
  have gM66 := hM66.gg (gM63.trans kmn.ur)
  intro M68 eM68
  have hM68 := hM66.new eM68
  have gM68 := hM68.gg (gM66.trans kmn.pu)
  rw [hM66.z]
  refine (ii_Fr (d := d + 1) ht hM68 (kd.nw hM66.len)).mono (fun M70 qM70 => ⟨qM70.1.1, ?_⟩)
  have hM70 := qM70.1
  have gM70 := gM68.trans qM70.2
  clear qM70
  refine ⟨hM70.kq (gM70 _ _ k), ?_⟩
  intro M74 eM74
  have hM74 := hM70.ur (gM70 _ _ k) eM74
  have gM74 := hM74.gg (gM70.trans kmn.ur)
  intro M76 eM76
  have hM76 := hM74.ur (gM74 _ _ k) eM76
  have gM76 := hM76.gg (gM74.trans kmn.ur)
  exact ⟨hM76.cv (by omega) (by omega), gM76⟩
def ini_CA (l : List PR) (o n : Nat) : List PR := uI (uR (pz (uR (ini_Fr (pz (uR (ini_Na (pz (uR (ini_Fs (pz (uR (ini_Fs (pz (uR (ini_Fs (pz (uR (ini_Fs (pz (uR (ini_So (pz (uR (ini_Ga (pz (uI (uI (uI (uR (ini_Pr (pz (uR (ini_Pr (pz (uR (ini_TR (pz (uR (ini_Wo (pz (uI (uR (pz (l) 32 256) o 0 n) o 1 (0)) 2 0) (n + 1) (n + 2)) o 2 (n + 1)) 3 0) (n + 6) (n + 7)) o 3 (n + 6)) 6 0) (n + 29) (n + 30)) o 4 (n + 29)) 6 0) (n + 45) (n + 46)) o 5 (n + 45)) o 6 (0)) o 7 (-1)) o 8 (-1)) 7 0) (n + 61) (n + 62)) o 9 (n + 61)) 8 0) (n + 84) (n + 61) (n + 85)) o 10 (n + 84)) 13 0) (n + 219) (n + 220)) o 11 (n + 219)) 13 0) (n + 221) (n + 222)) o 12 (n + 221)) 13 0) (n + 223) (n + 224)) o 13 (n + 223)) 13 0) (n + 225) (n + 226)) o 14 (n + 225)) 10 0) (n + 227) (n + 228)) o 15 (n + 227)) 11 0) (n + 229) (n + 230)) o 16 (n + 229)) 32 400) o 17 (n + 234)) o 18 (0)
theorem ii_CA {l : List PR} {n s t o d : Nat} {G : mG} {M0 M : mM} (ht : 0 < t) (h : Cst l n s t M0 M) (k : kd l o 1) : Cv G y_CA_init (d + 5) [vr (t + o)] M (fun M' => Cst (ini_CA l o n) (n + 235) (s + 48665) t M0 M' ∧ kmn l (ini_CA l o n)) := by
  refine k_CA_init (d := d + 4) h.1 ⟨Nat.add_pos_left ht o, ?_⟩
  have g : kmn l l := fun _ _ u => u
  intro M2 eM2
  have hM2 := h.new eM2
  have gM2 := hM2.gg (g.trans kmn.pu)
  rw [h.z]
  refine ⟨hM2.kq (gM2 _ _ k), ?_⟩
  intro M5 eM5
  have hM5 := hM2.ur (gM2 _ _ k) eM5
  have gM5 := hM5.gg (gM2.trans kmn.ur)
  intro M7 eM7
  have hM7 := hM5.ui (gM5 _ _ k) ⟨by decide, by decide⟩ eM7
  have gM7 := hM7.gg (gM5.trans kmn.ui)
  intro M9 eM9
  have hM9 := hM7.new eM9
  have gM9 := hM9.gg (gM7.trans kmn.pu)
  rw [hM7.z]
  refine (ii_Wo (d := d + 3) ht hM9 (kd.nw hM7.len)).mono (fun M11 qM11 => ⟨qM11.1.1, ?_⟩)
  have hM11 := qM11.1
  have gM11 := gM9.trans qM11.2
  clear qM11
  refine ⟨hM11.kq (gM11 _ _ k), ?_⟩
  intro M15 eM15
  have hM15 := hM11.ur (gM11 _ _ k) eM15
  have gM15 := hM15.gg (gM11.trans kmn.ur)
  intro M17 eM17
  have hM17 := hM15.new eM17
  have gM17 := hM17.gg (gM15.trans kmn.pu)
  rw [hM15.z]
  refine (ii_TR (d := d + 2) ht hM17 (kd.nw hM15.len)).mono (fun M19 qM19 => ⟨qM19.1.1, ?_⟩)
  have hM19 := qM19.1
  have gM19 := gM17.trans qM19.2
  clear qM19
  refine ⟨hM19.kq (gM19 _ _ k), ?_⟩
  intro M23 eM23
  have hM23 := hM19.ur (gM19 _ _ k) eM23
  have gM23 := hM23.gg (gM19.trans kmn.ur)
  intro M25 eM25
  have hM25 := hM23.new eM25
  have gM25 := hM25.gg (gM23.trans kmn.pu)
  rw [hM23.z]
  refine (ii_Pr (d := d + 3) ht hM25 (kd.nw hM23.len)).mono (fun M27 qM27 => ⟨qM27.1.1, ?_⟩)
  have hM27 := qM27.1
  have gM27 := gM25.trans qM27.2
  clear qM27
  refine ⟨hM27.kq (gM27 _ _ k), ?_⟩
  intro M31 eM31
  have hM31 := hM27.ur (gM27 _ _ k) eM31
  have gM31 := hM31.gg (gM27.trans kmn.ur)
  intro M33 eM33
  have hM33 := hM31.new eM33
  have gM33 := hM33.gg (gM31.trans kmn.pu)
  rw [hM31.z]
  refine (ii_Pr (d := d + 3) ht hM33 (kd.nw hM31.len)).mono (fun M35 qM35 => ⟨qM35.1.1, ?_⟩)
  have hM35 := qM35.1
  have gM35 := gM33.trans qM35.2
  clear qM35
  refine ⟨hM35.kq (gM35 _ _ k), ?_⟩
  intro M39 eM39
  have hM39 := hM35.ur (gM35 _ _ k) eM39
  have gM39 := hM39.gg (gM35.trans kmn.ur)
  intro M41 eM41
  have hM41 := hM39.ui (gM39 _ _ k) ⟨by decide, by decide⟩ eM41
  have gM41 := hM41.gg (gM39.trans kmn.ui)
  intro M43 eM43
  have hM43 := hM41.ui (gM41 _ _ k) ⟨by decide, by decide⟩ eM43
  have gM43 := hM43.gg (gM41.trans kmn.ui)
  intro M45 eM45
  have hM45 := hM43.ui (gM43 _ _ k) ⟨by decide, by decide⟩ eM45
  have gM45 := hM45.gg (gM43.trans kmn.ui)
  intro M47 eM47
  have hM47 := hM45.new eM47
  have gM47 := hM47.gg (gM45.trans kmn.pu)
  rw [hM45.z]
  refine (ii_Ga (d := d + 2) ht hM47 (kd.nw hM45.len)).mono (fun M49 qM49 => ⟨qM49.1.1, ?_⟩)
  have hM49 := qM49.1
  have gM49 := gM47.trans qM49.2
  clear qM49
  refine ⟨hM49.kq (gM49 _ _ k), ?_⟩
  intro M53 eM53
  have hM53 := hM49.ur (gM49 _ _ k) eM53
  have gM53 := hM53.gg (gM49.trans kmn.ur)
  intro M55 eM55
  have hM55 := hM53.new eM55
  have gM55 := hM55.gg (gM53.trans kmn.pu)
  rw [hM53.z]
  refine ⟨hM55.kq (gM55 _ _ k), ?_⟩
  have r9 : mR M55 (t + o) 9 = t + (n + 61) := by rw [eM55, mR_New, if_neg (by have := (gM53 _ _ k).lt; have := hM53.len; have := hM53.z; omega)]; rw [eM53, mR_UR, if_pos ⟨rfl, rfl⟩]
  rw [r9]
  refine (ii_So (d := d + 0) ht hM55 (kd.nw hM53.len)).mono (fun M58 qM58 => ⟨qM58.1.1, ?_⟩)
  have hM58 := qM58.1
  have gM58 := gM55.trans qM58.2
  clear qM58
  refine ⟨hM58.kq (gM58 _ _ k), ?_⟩
  intro M62 eM62
  have hM62 := hM58.ur (gM58 _ _ k) eM62
  have gM62 := hM62.gg (gM58.trans kmn.ur)
  intro M64 eM64
  have hM64 := hM62.new eM64
  have gM64 := hM64.gg (gM62.trans kmn.pu)
  rw [hM62.z]
  refine (ii_Fs (d := d + 3) ht hM64 (kd.nw hM62.len)).mono (fun M66 qM66 => ⟨qM66.1.1, ?_⟩)
  have hM66 := qM66.1
  have gM66 := gM64.trans qM66.2
  clear qM66
  refine ⟨hM66.kq (gM66 _ _ k), ?_⟩
  intro M70 eM70
  have hM70 := hM66.ur (gM66 _ _ k) eM70
  have gM70 := hM70.gg (gM66.trans kmn.ur)
  intro M72 eM72
  have hM72 := hM70.new eM72
  have gM72 := hM72.gg (gM70.trans kmn.pu)
  rw [hM70.z]
  refine (ii_Fs (d := d + 3) ht hM72 (kd.nw hM70.len)).mono (fun M74 qM74 => ⟨qM74.1.1, ?_⟩)
  have hM74 := qM74.1
  have gM74 := gM72.trans qM74.2
  clear qM74
  refine ⟨hM74.kq (gM74 _ _ k), ?_⟩
  intro M78 eM78
  have hM78 := hM74.ur (gM74 _ _ k) eM78
  have gM78 := hM78.gg (gM74.trans kmn.ur)
  intro M80 eM80
  have hM80 := hM78.new eM80
  have gM80 := hM80.gg (gM78.trans kmn.pu)
  rw [hM78.z]
  refine (ii_Fs (d := d + 3) ht hM80 (kd.nw hM78.len)).mono (fun M82 qM82 => ⟨qM82.1.1, ?_⟩)
  have hM82 := qM82.1
  have gM82 := gM80.trans qM82.2
  clear qM82
  refine ⟨hM82.kq (gM82 _ _ k), ?_⟩
  intro M86 eM86
  have hM86 := hM82.ur (gM82 _ _ k) eM86
  have gM86 := hM86.gg (gM82.trans kmn.ur)
  intro M88 eM88
  have hM88 := hM86.new eM88
  have gM88 := hM88.gg (gM86.trans kmn.pu)
  rw [hM86.z]
  refine (ii_Fs (d := d + 3) ht hM88 (kd.nw hM86.len)).mono (fun M90 qM90 => ⟨qM90.1.1, ?_⟩)
  have hM90 := qM90.1
  have gM90 := gM88.trans qM90.2
  clear qM90
  refine ⟨hM90.kq (gM90 _ _ k), ?_⟩
  intro M94 eM94
  have hM94 := hM90.ur (gM90 _ _ k) eM94
  have gM94 := hM94.gg (gM90.trans kmn.ur)
  intro M96 eM96
  have hM96 := hM94.new eM96
  have gM96 := hM96.gg (gM94.trans kmn.pu)
  rw [hM94.z]
  refine (ii_Na (d := d + 3) ht hM96 (kd.nw hM94.len)).mono (fun M98 qM98 => ⟨qM98.1.1, ?_⟩)
  have hM98 := qM98.1
  have gM98 := gM96.trans qM98.2
  clear qM98
  refine ⟨hM98.kq (gM98 _ _ k), ?_⟩
  intro M102 eM102
  have hM102 := hM98.ur (gM98 _ _ k) eM102
  have gM102 := hM102.gg (gM98.trans kmn.ur)
  intro M104 eM104
  have hM104 := hM102.new eM104
  have gM104 := hM104.gg (gM102.trans kmn.pu)
  rw [hM102.z]
  refine (ii_Fr (d := d + 2) ht hM104 (kd.nw hM102.len)).mono (fun M106 qM106 => ⟨qM106.1.1, ?_⟩)
  have hM106 := qM106.1
  have gM106 := gM104.trans qM106.2
  clear qM106
  refine ⟨hM106.kq (gM106 _ _ k), ?_⟩
  intro M110 eM110
  have hM110 := hM106.ur (gM106 _ _ k) eM110
  have gM110 := hM110.gg (gM106.trans kmn.ur)
  intro M112 eM112
  have hM112 := hM110.new eM112
  have gM112 := hM112.gg (gM110.trans kmn.pu)
  rw [hM110.z]
  refine ⟨hM112.kq (gM112 _ _ k), ?_⟩
  intro M115 eM115
  have hM115 := hM112.ur (gM112 _ _ k) eM115
  have gM115 := hM115.gg (gM112.trans kmn.ur)
  intro M117 eM117
  have hM117 := hM115.ui (gM115 _ _ k) ⟨by decide, by decide⟩ eM117
  have gM117 := hM117.gg (gM115.trans kmn.ui)
  exact ⟨hM117.cv (by omega) (by omega), gM117⟩
