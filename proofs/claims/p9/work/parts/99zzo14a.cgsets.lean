section
/-! The class's reader of texts: where the orders of sets, chances and guards lie. -/
/-- a set is sound -/
def sOk (W pl : Nat → Int) (sm : Nat → Nat → Prop) (n V : Nat) (nms : List nm9) (q' : Nat × Nat × Nat × Nat) : Prop := Eo W 6 q'.2.1 q'.2.2.1 ∧ q'.2.2.1 ≤ n ∧ (fl W (E9 sm nms 0) pl 0 q'.2.1 q'.2.2.1).1 = 0 ∧ q'.1 < V ∧ 0 ≤ pl q'.2.2.2 ∧ pl q'.2.2.2 ≤ 16384
/-- the sets of a branch whose first word behind ':' is k0 -/
noncomputable def sll (W : Nat → Int) (sm : Nat → Nat → Prop) (Nn : Nat) (nms : List nm9) (k0 : Nat) : List (Nat × Nat × Nat × Nat) := if W k0 = 10 then [] else sel9 W sm Nn nms Nn k0
/-- i sets have been read, the next begins at the word k: their orders lie from S0 on -/
def seL (W pl nq : Nat → Int) (sm : Nat → Nat → Prop) (Nn n V : Nat) (Mc : mM) (q p O P c k0 S0 : Nat) (nms : List nm9) (i k : Nat) (M : mM) : Prop := CT Mc (q + 1) p nms → nms.length = c → mI M (q + 1) 3 = 0 → ∃ (l : List (Nat × Nat × Nat × Nat)) (s9 : Nat), mI M p 2 = ((s9 : Nat) : Int) ∧ sel9 W sm Nn nms Nn k0 = l ++ sel9 W sm Nn nms (Nn - i) k ∧ Scw (LfC W nq sm n nms) W pl (mI M O) (mI M P) l S0 s9 ∧ ∀ q', q' ∈ l → sOk W pl sm n V nms q'
/-- all sets have been read -/
def seM (W pl nq : Nat → Int) (sm : Nat → Nat → Prop) (Nn n V : Nat) (Mc : mM) (q p O P c k0 S0 : Nat) (nms : List nm9) (M : mM) : Prop := CT Mc (q + 1) p nms → nms.length = c → mI M (q + 1) 3 = 0 → ∃ s9 : Nat, mI M p 2 = ((s9 : Nat) : Int) ∧ Scw (LfC W nq sm n nms) W pl (mI M O) (mI M P) (sll W sm Nn nms k0) S0 s9 ∧ ∀ q', q' ∈ sll W sm Nn nms k0 → sOk W pl sm n V nms q'
/-- and their end is put behind them -/
def seE (W pl nq : Nat → Int) (sm : Nat → Nat → Prop) (Nn n V : Nat) (Mc : mM) (q p O P c k0 S0 : Nat) (nms : List nm9) (M : mM) : Prop := CT Mc (q + 1) p nms → nms.length = c → mI M (q + 1) 3 = 0 → ∃ s9 : Nat, mI M p 2 = ((s9 + 1 : Nat) : Int) ∧ mI M O s9 = 0 ∧ Scw (LfC W nq sm n nms) W pl (mI M O) (mI M P) (sll W sm Nn nms k0) S0 s9 ∧ ∀ q', q' ∈ sll W sm Nn nms k0 → sOk W pl sm n V nms q'
/-- a chance's orders and place are put down -/
def chD (W pl nq : Nat → Int) (sm : Nat → Nat → Prop) (Cf : Nat → Int × Int) (q p O P n c L ix a j : Nat) (nms : List nm9) (M M' : mM) : Prop := (mI M' (q + 1) 3 = 0 → (∀ i, 3 ≤ i → i ≤ 12 → mI M' (p + i) = mI M (p + i)) ∧ mI M' p 11 = mI M p 11 ∧ ∃ v e : Nat, mI M (p + 12) (ix + 1) = ((v : Nat) : Int) ∧ (∀ t, mI M' (p + 13) t = (if t = v then pl a else mI M (p + 13) t) ∧ mI M' (p + 14) t = (if t = v then ((L : Nat) : Int) else mI M (p + 14) t) ∧ mI M' (p + 15) t = (if t = v then ((e + 1 : Nat) : Int) else mI M (p + 15) t)) ∧ mI M' p 2 = ((e + 1 : Nat) : Int) ∧ mI M' O e = 0 ∧ Cd W Cf pl (mI M' O) (mI M' P) 0 0 0 a j L e ∧ cdE O P L M M') ∧ (CT M (q + 1) p nms → nms.length = c → LfC W nq sm n nms Cf)
section TXO1
variable {p n c r : Nat} {M : mM} {W nq E : Nat → Int} {Cf : Nat → Int × Int} {sm : Nat → Nat → Prop} {nms : List nm9}
/-- the orders of words, where all names may stand -/
theorem ECq.lf (ec : ECq M r p n W nq sm nms c 0 E Cf) (ct : CT M r p nms) (hl : nms.length = c) (hk : ∀ i, i < c → mI M (r + 9) i = 0 ∨ mI M (r + 9) i = 1) : LfC W nq sm n nms Cf := by
  obtain ⟨big, ec⟩ := ec
  obtain ⟨eE, ec⟩ := ec ct hl
  rw [if_pos rfl] at eE
  refine ⟨big, fun k kn => ?_⟩
  obtain ⟨c2, c12, c13, c1⟩ := ec k kn
  refine ⟨c2, c12, c13, fun h1 l1 e l2 he hs hno => ?_⟩
  have gl : nms[l1.length]? = some e := by
    rw [he, List.getElem?_append_right (Nat.le_refl _), Nat.sub_self]
    rfl
  have ne : E k ≠ -1 := by
    have fe : fnd9 sm nms k = some e := by
      unfold fnd9
      rw [List.find?_eq_some_iff_append]
      exact ⟨by simpa using hs, l1, l2, he, fun a ha => by simpa using hno a ha⟩
    rw [eE]
    unfold E9
    rw [fe]
    show (if (0 : Int) = 1 ∧ e.2.1 ≠ 1 then (-1 : Int) else e.2.2.1) ≠ -1
    rw [if_neg (fun u => absurd u.1 (by decide)), ← (ct.2 _ e gl).2.2.2.1]
    have := hk l1.length (by rw [← hl, he, List.length_append, List.length_cons]; omega)
    omega
  obtain ⟨i, e', z1, z2, -, z4, z5⟩ := c1 h1 ne
  have se' : sm e'.1 k := (fnd_sp z2).elim (fun _ ⟨_, _, q, _⟩ => q)
  have ii : i = l1.length := by
    rcases Nat.lt_trichotomy i l1.length with y | y | y
    · rw [he, List.getElem?_append_left y] at z1
      exact absurd se' (hno e' (List.mem_of_getElem? z1))
    · exact y
    · exact absurd hs (z5 _ e y gl)
  subst ii
  rw [gl] at z1
  have ee := Option.some.inj z1
  subst ee
  obtain ⟨-, t2, -, -, -, -, t7⟩ := ct.2 _ e gl
  have tk : nms.take l1.length = l1 := by rw [he, List.take_left]
  rw [z4, t2, t7, tk]
end TXO1
section TXO2
variable {W pl nq : Nat → Int} {sm : Nat → Nat → Prop} {Nn n V q p O P c k0 S0 i k j : Nat} {Mc M M' : mM} {nms : List nm9} {e : nm9}
theorem twt9 {P9 : nm9 → Bool} : ∀ (l : List nm9) (j : Nat) (e : nm9), l[j]? = some e → P9 e = false → (∀ (j' : Nat) (e' : nm9), j' < j → l[j']? = some e' → P9 e' = true) → l.takeWhile P9 = l.take j
  | [], j, e, h, _, _ => absurd h (by simp)
  | a :: l, 0, e, h, h1, _ => by
    have : a = e := Option.some.inj h
    subst this
    rw [List.takeWhile_cons, h1]
    rfl
  | a :: l, j + 1, e, h, h1, h2 => by
    have ha := h2 0 a (by omega) rfl
    rw [List.takeWhile_cons, ha, List.take_succ_cons]
    show a :: l.takeWhile P9 = _
    rw [twt9 l j e h h1 (fun j' e' hj z => h2 (j' + 1) e' (by omega) z)]
theorem vix_at (h : nms[j]? = some e) (h1 : sm e.1 k) (h2 : ∀ (j' : Nat) (e' : nm9), j' < j → nms[j']? = some e' → ¬ sm e'.1 k) : vix9 sm nms k = vcn (nms.take j) := by
  unfold vix9
  rw [twt9 nms j e h (by simpa using h1) (fun j' e' hj z => by simpa using h2 j' e' hj z)]
theorem seL.cg (h : seL W pl nq sm Nn n V Mc q p O P c k0 S0 nms i k M) (h3 : mI M' (q + 1) 3 = 0 → mI M (q + 1) 3 = 0) (hp : mI M' p 2 = mI M p 2) (hO : mI M' O = mI M O) (hP : mI M' P = mI M P) : seL W pl nq sm Nn n V Mc q p O P c k0 S0 nms i k M' := fun ct hl y => by
  obtain ⟨l, s9, a1, a2, a3, a4⟩ := h ct hl (h3 y)
  exact ⟨l, s9, by rw [hp]; exact a1, a2, by rw [hO, hP]; exact a3, a4⟩
/-- one set more -/
theorem seL.next {Cf : Nat → Int × Int} {s9 e9 a' : Nat} (h : seL W pl nq sm Nn n V Mc q p O P c k0 S0 nms i k M) (h3 : mI M' (q + 1) 3 = 0 → mI M (q + 1) 3 = 0) (hp : mI M p 2 = ((s9 : Nat) : Int)) (hp' : mI M' p 2 = ((e9 + 1 : Nat) : Int)) (hc : ∀ t, t < s9 → mI M' O t = mI M O t ∧ mI M' P t = mI M P t) (hi : i < Nn) (hk : W k0 ≠ 10) (cp : cpq W (k + 4) Nn = a') (hx : CT Mc (q + 1) p nms → nms.length = c → mI M' (q + 1) 3 = 0 → LfC W nq sm n nms Cf ∧ Cd W Cf pl (mI M' O) (mI M' P) 0 0 0 (k + 4) a' s9 e9 ∧ mI M' O e9 = 43 ∧ mI M' P e9 = pl k * 16 + ((vix9 sm nms (k + 1) : Nat) : Int) ∧ sOk W pl sm n V nms (vix9 sm nms (k + 1), k + 4, a', k)) : (W (a' + 1) = 29 → seL W pl nq sm Nn n V Mc q p O P c k0 S0 nms (i + 1) (a' + 2) M') ∧ (W (a' + 1) ≠ 29 → seM W pl nq sm Nn n V Mc q p O P c k0 S0 nms M') := by
  have key : CT Mc (q + 1) p nms → nms.length = c → mI M' (q + 1) 3 = 0 → ∃ l, sel9 W sm Nn nms Nn k0 = (l ++ [(vix9 sm nms (k + 1), k + 4, a', k)]) ++ (if W (a' + 1) = 29 then sel9 W sm Nn nms (Nn - (i + 1)) (a' + 2) else []) ∧ Scw (LfC W nq sm n nms) W pl (mI M' O) (mI M' P) (l ++ [(vix9 sm nms (k + 1), k + 4, a', k)]) S0 (e9 + 1) ∧ ∀ q', q' ∈ l ++ [(vix9 sm nms (k + 1), k + 4, a', k)] → sOk W pl sm n V nms q' := fun ct hl y => by
    obtain ⟨l, s9', a1, a2, a3, a4⟩ := h ct hl (h3 y)
    have es : s9' = s9 := by rw [hp] at a1; omega
    subst es
    obtain ⟨x1, x2, x3, x4, x5⟩ := hx ct hl y
    refine ⟨l, ?_, Scw.add (q := (vix9 sm nms (k + 1), k + 4, a', k)) x1 l (Scw.cg l a3 (fun t _ t2 => hc t t2)) x2 x3 x4, fun q' hq => ?_⟩
    · obtain ⟨f, hf⟩ : ∃ f, Nn - i = f + 1 := ⟨Nn - i - 1, by omega⟩
      rw [a2, hf, sel9, cp, show Nn - (i + 1) = f by omega, List.append_assoc]
      rfl
    · rcases List.mem_append.mp hq with u | u
      · exact a4 q' u
      · rw [List.mem_singleton.mp u]
        exact x5
  refine ⟨fun w29 ct hl y => ?_, fun w29 ct hl y => ?_⟩
  · obtain ⟨l, b1, b2, b3⟩ := key ct hl y
    rw [if_pos w29] at b1
    exact ⟨_, e9 + 1, hp', b1, b2, b3⟩
  · obtain ⟨l, b1, b2, b3⟩ := key ct hl y
    rw [if_neg w29, List.append_nil] at b1
    have e1 : sll W sm Nn nms k0 = l ++ [(vix9 sm nms (k + 1), k + 4, a', k)] := by
      unfold sll
      rw [if_neg hk, b1]
    refine ⟨e9 + 1, hp', ?_, ?_⟩
    · rw [e1]; exact b2
    · rw [e1]; exact b3
theorem seM.fin {s9 : Nat} (h : seM W pl nq sm Nn n V Mc q p O P c k0 S0 nms M) (h3 : mI M' (q + 1) 3 = 0 → mI M (q + 1) 3 = 0) (hp : mI M p 2 = ((s9 : Nat) : Int)) (hp' : mI M' p 2 = ((s9 + 1 : Nat) : Int)) (hc : ∀ t, t < s9 → mI M' O t = mI M O t ∧ mI M' P t = mI M P t) (h0 : mI M' O s9 = 0) : seE W pl nq sm Nn n V Mc q p O P c k0 S0 nms M' := fun ct hl y => by
  obtain ⟨s9', a1, a2, a3⟩ := h ct hl (h3 y)
  have es : s9' = s9 := by rw [hp] at a1; omega
  subst es
  exact ⟨s9', hp', h0, Scw.cg _ a2 (fun t _ t2 => hc t t2), a3⟩
end TXO2
end
section
/-! The class's reader of texts, exactly: the sets' faults, and one set. -/
section TXP
variable {G : mG} {d z q w T A B D N C n p O P K Ab Be Cm V F c s L cnt a s9 S0 k i k0 Nn a' : Nat} {M0 M M' M1 M2 Mc : mM} {ns : Nat → Int} {sf ef : Nat → Nat} {W pl nq E : Nat → Int} {sm : Nat → Nat → Prop} {nms : List nm9} {ft fS vR : Int × Int} {l2 l6 x : Int}
/-- the pure sets from the word k0 on -/
noncomputable abbrev sef0 (W pl : Nat → Int) (sm : Nat → Nat → Prop) (Nn : Nat) (nms : List nm9) (k0 : Nat) : (Int × Int) × Nat := sef W pl sm Nn nms Nn k0 []
/-- i sets have been read, the next begins at the word k; their fault fS, their vars l2 -/
def seK (W pl : Nat → Int) (sm : Nat → Nat → Prop) (Nn : Nat) (Mc : mM) (q p c k0 : Nat) (nms : List nm9) (fS : Int × Int) (l2 : Int) (i k : Nat) : Prop := CT Mc (q + 1) p nms → nms.length = c → (fS.1 ≠ 0 → (sef0 W pl sm Nn nms k0).1 = fS) ∧ (fS.1 = 0 → ∃ (l : Nat) (seen : List Nat), l2 = l ∧ l < 4096 ∧ snq Mc (q + 1) nms l seen ∧ sef0 W pl sm Nn nms k0 = sef W pl sm Nn nms (Nn - i) k seen)
/-- they are over at the word a -/
def seO (W pl : Nat → Int) (sm : Nat → Nat → Prop) (Nn : Nat) (Mc : mM) (q p c k0 : Nat) (nms : List nm9) (fS : Int × Int) (a : Nat) : Prop := CT Mc (q + 1) p nms → nms.length = c → (fS.1 ≠ 0 → (sef0 W pl sm Nn nms k0).1 = fS) ∧ (fS.1 = 0 → (sef0 W pl sm Nn nms k0).1.1 = 0 ∧ a = (sef0 W pl sm Nn nms k0).2)
def seNb (W pl : Nat → Int) (sm : Nat → Nat → Prop) (Nn : Nat) (Mc : mM) (q k0 : Nat) (nms : List nm9) (fS : Int × Int) (l2 l6 : Int) (i k : Nat) : Prop := (fS.1 ≠ 0 → (sef0 W pl sm Nn nms k0).1 = fS) ∧ (fS.1 = 0 → ∃ (l : Nat) (seen : List Nat) (j : Nat) (e : nm9), l2 = l ∧ l < 4096 ∧ snq Mc (q + 1) nms l seen ∧ sef0 W pl sm Nn nms k0 = sef W pl sm Nn nms (Nn - i) k seen ∧ fnd9 sm nms (k + 1) = some e ∧ fst1 nms j e ∧ e.2.1 = 3 ∧ e.1 ∉ seen ∧ l6 = mI Mc (q + 1 + 8) j ∧ l6 = ((vix9 sm nms (k + 1) : Nat) : Int))
/-- the next set's name has been read, its var is l6 -/
def seN (W pl : Nat → Int) (sm : Nat → Nat → Prop) (Nn : Nat) (Mc : mM) (q p c k0 : Nat) (nms : List nm9) (fS : Int × Int) (l2 l6 : Int) (i k : Nat) : Prop := CT Mc (q + 1) p nms → nms.length = c → seNb W pl sm Nn Mc q k0 nms fS l2 l6 i k
theorem srt9_5 {y : Nat} (h : 1 ≤ y ∧ y ≤ 3) : srt9 y = 5 ↔ y = 3 := by
  unfold srt9
  split
  · omega
  · split <;> omega
theorem seK.nm (h : seK W pl sm Nn Mc q p c k0 nms fS l2 i k) (hik : i ≤ k) (hN : n ≤ Nn) (hk : k + 1 < n) (ctM : CT Mc (q + 1) p nms → CT M (q + 1) p nms) (e8 : mI M (q + 1 + 8) = mI Mc (q + 1 + 8)) (wt : WTq M T A B D n W pl nq sm) (tn : TN M (q + 1) A n V F ns c) (V12 : V ≤ 12) (w1 : W (k + 1) = 1) (hx : (nmn M (q + 1) T B D c (k + 1) ∧ x = -1) ∨ ∃ i : Nat, fm M (q + 1) T B D c (k + 1) i ∧ x = if mI M (q + 1 + 7) i = 5 then mI M (q + 1 + 8) i else -1) : (x = -1 → seN W pl sm Nn Mc q p c k0 nms (fst9 fS (2, pl (k + 1))) l2 x i k) ∧ (x ≠ -1 → andI (shrI l2 x) 1 = 0 → seN W pl sm Nn Mc q p c k0 nms fS l2 x i k) ∧ (x ≠ -1 → andI (shrI l2 x) 1 ≠ 0 → seN W pl sm Nn Mc q p c k0 nms (fst9 fS (4, pl (k + 1))) l2 x i k) := by
  have key : CT Mc (q + 1) p nms → nms.length = c → (x = -1 → seNb W pl sm Nn Mc q k0 nms (fst9 fS (2, pl (k + 1))) l2 x i k) ∧ (x ≠ -1 → andI (shrI l2 x) 1 = 0 → seNb W pl sm Nn Mc q k0 nms fS l2 x i k) ∧ (x ≠ -1 → andI (shrI l2 x) 1 ≠ 0 → seNb W pl sm Nn Mc q k0 nms (fst9 fS (4, pl (k + 1))) l2 x i k) := fun ct hl => by
    obtain ⟨h1, h2⟩ := h ct hl
    by_cases f0 : fS.1 = 0
    · obtain ⟨l, seen, e2, l4, sn, es⟩ := h2 f0
      have es' := es
      obtain ⟨f, hf⟩ : ∃ f, Nn - i = f + 1 := ⟨Nn - i - 1, by
        clear hx h h1 h2
        omega⟩
      rw [hf] at es
      have cM := ctM ct
      have hw : ∀ i, i < nms.length → ∃ v : Nat, mI M (q + 1 + 6) i = v ∧ v < n ∧ mI M A v = 2 := fun i hi => (tn.2.2 i (by rw [← hl]; exact hi)).1
      rw [fst9_zr f0, fst9_zr f0]
      have bad : ∀ {y : Int}, y ≠ 0 → sef0 W pl sm Nn nms k0 = ((y, pl (k + 1)), k) → seNb W pl sm Nn Mc q k0 nms (y, pl (k + 1)) l2 x i k := fun {y} y0 u => ⟨fun _ => by rw [u], fun v => absurd v y0⟩
      rcases cM.fnd wt hw hk w1 with ⟨q1, q2⟩ | ⟨j, e, q1, q2, q3, q9⟩
      · rw [hl] at q1
        have ex : x = -1 := by
          rcases hx with u | ⟨j, u, -⟩
          · exact u.2
          · exact absurd u.2.1 (q1 j u.1)
        rw [sefc_none q2] at es
        exact ⟨fun _ => bad (by decide) es, fun u => absurd ex u, fun u => absurd ex u⟩
      · have f1 := fm_fst cM q1 q2
        rw [hl] at q1
        have ex : x = if mI M (q + 1 + 7) j = 5 then mI M (q + 1 + 8) j else -1 := by
          rcases hx with u | ⟨j', u, v⟩
          · exact absurd q1.2.1 (u.1 j q1.1)
          · rw [fm_un q1 u]
            exact v
        obtain ⟨-, s2, s3, -⟩ := cM.2 j e q2
        rw [sefc_some q3] at es
        by_cases e3 : e.2.1 = 3
        · have s5 : mI M (q + 1 + 7) j = 5 := by rw [s2]; exact (srt9_5 s3).mpr e3
          rw [if_pos s5] at ex
          have rg : 0 ≤ mI M (q + 1 + 8) j ∧ mI M (q + 1 + 8) j < V := by
            obtain ⟨-, u, -⟩ := tn.2.2 j q1.1
            rcases u with u | u
            · exact ⟨u.2.1, u.2.2⟩
            · rcases u.1 with v | v <;> rw [s5] at v <;> exact absurd v (by first | decide | simp)
          obtain ⟨v, hv⟩ : ∃ v : Nat, mI M (q + 1 + 8) j = v := ⟨(mI M (q + 1 + 8) j).toNat, by rw [Int.toNat_of_nonneg rg.1]⟩
          have v12 : v < 12 := by
            clear hx h h1 h2
            omega
          have vn : ((v : Nat) : Int) ≠ -1 := by
            clear hx h h1 h2
            omega
          rw [if_neg (fun u => u e3)] at es
          have sb := sn j e f1 e3
          rw [← e8, hv, Int.toNat_natCast] at sb
          have sb := (sb_and l4 v12).trans (not_congr sb)
          rw [← e2] at sb
          have vx : ((v : Nat) : Int) = ((vix9 sm nms (k + 1) : Nat) : Int) := by
            have t7 := (cM.2 j e q2).2.2.2.2.2.2
            rw [if_pos e3, hv] at t7
            rw [t7, vix_at q2 (by obtain ⟨_, _, _, qs, _⟩ := fnd_sp q3; exact qs) q9]
          rw [ex, hv]
          refine ⟨fun u => absurd u vn, fun _ u => ⟨fun u => absurd f0 u, fun _ => ⟨l, seen, j, e, e2, l4, sn, es', q3, f1, e3, sb.mp u, by rw [← e8, hv], vx⟩⟩, fun _ u => ?_⟩
          have mem : e.1 ∈ seen := Classical.byContradiction (fun z => u (sb.mpr z))
          rw [if_pos mem] at es
          have b := bad (y := 4) (by decide) es
          rw [ex, hv] at b
          exact b
        · have s5 : mI M (q + 1 + 7) j ≠ 5 := by
            rw [s2]
            exact fun u => e3 ((srt9_5 s3).mp u)
          rw [if_neg s5] at ex
          rw [if_pos e3] at es
          exact ⟨fun _ => bad (by decide) es, fun u => absurd ex u, fun u => absurd ex u⟩
    · rw [fst9_n f0, fst9_n f0]
      have all : seNb W pl sm Nn Mc q k0 nms fS l2 x i k := ⟨h1, fun u => absurd u f0⟩
      exact ⟨fun _ => all, fun _ _ => all, fun _ _ => all⟩
  exact ⟨fun u ct hl => (key ct hl).1 u, fun u v ct hl => (key ct hl).2.1 u v, fun u v ct hl => (key ct hl).2.2 u v⟩
theorem seN.next (h : seN W pl sm Nn Mc q p c k0 nms fS l2 l6 i k) (hik : i ≤ k) (hN : n ≤ Nn) (hk : k < n) (tn : TN Mc (q + 1) A n V F ns c) (V12 : V ≤ 12) (eo : Eo W 6 (k + 4) a') (w37 : W a' = 37) (ha' : a' < n) (hvr : CT Mc (q + 1) p nms → nms.length = c → ∀ e, fnd9 sm nms (k + 1) = some e → vR = rf9 W pl sm nms 0 e.2.2.1 (k + 4) a') : (W (a' + 1) = 29 → seK W pl sm Nn Mc q p c k0 nms (fst9 fS vR) (orI l2 (if l6 = -1 then 0 else shlI 1 l6)) (i + 1) (a' + 2)) ∧ (W (a' + 1) ≠ 29 → seO W pl sm Nn Mc q p c k0 nms (fst9 fS vR) (a' + 1)) := by
  have es9 : ∀ {e : nm9} {seen : List Nat}, CT Mc (q + 1) p nms → nms.length = c → sef0 W pl sm Nn nms k0 = sef W pl sm Nn nms (Nn - i) k seen → fnd9 sm nms (k + 1) = some e → e.2.1 = 3 → e.1 ∉ seen → sef0 W pl sm Nn nms k0 = if vR.1 ≠ 0 then (vR, k) else if W (a' + 1) = 29 then sef W pl sm Nn nms (Nn - (i + 1)) (a' + 2) (e.1 :: seen) else ((0, 0), a' + 1) := fun {e seen} ct hl es fe e3 nS => by
    have ev := hvr ct hl e fe
    have cp : cpq W (k + 4) Nn = a' := cpq_at eo w37 (by omega)
    obtain ⟨f, hf⟩ : ∃ f, Nn - i = f + 1 := ⟨Nn - i - 1, by omega⟩
    have hf2 : Nn - (i + 1) = f := by omega
    rw [hf, sefc_some fe, if_neg (fun u => u e3), if_neg nS, cp, ← ev] at es
    rw [hf2]
    exact es
  by_cases f0 : fS.1 = 0
  · rw [fst9_zr f0]
    refine ⟨fun w29 ct hl => ?_, fun w29 ct hl => ?_⟩
    · obtain ⟨l, seen, j, e, e2, l4, sn, es, fe, f1, e3, nS, e6, -⟩ := (h ct hl).2 f0
      have es := es9 ct hl es fe e3 nS
      refine ⟨fun v0 => by rw [es, if_pos v0], fun v0 => ?_⟩
      rw [if_neg (fun u => u v0), if_pos w29] at es
      have jc : j < c := by rw [← hl]; exact (List.getElem?_eq_some_iff.mp f1.1).1
      have s5 : mI Mc (q + 1 + 7) j = 5 := by
        obtain ⟨-, s2, s3, -⟩ := ct.2 j e f1.1
        rw [s2]
        exact (srt9_5 s3).mpr e3
      have rg : 0 ≤ mI Mc (q + 1 + 8) j ∧ mI Mc (q + 1 + 8) j < V := by
        obtain ⟨-, u, -⟩ := tn.2.2 j jc
        rcases u with u | u
        · exact ⟨u.2.1, u.2.2⟩
        · rcases u.1 with v | v <;> rw [s5] at v <;> exact absurd v (by first | decide | simp)
      obtain ⟨v, hv⟩ : ∃ v : Nat, mI Mc (q + 1 + 8) j = v := ⟨(mI Mc (q + 1 + 8) j).toNat, by rw [Int.toNat_of_nonneg rg.1]⟩
      have v12 : v < 12 := by
        clear h hvr
        omega
      have p12 : 2 ^ v < 2147483648 := Nat.lt_trans (Nat.pow_lt_pow_right (by decide) v12) (by decide)
      refine ⟨l ||| 2 ^ v, e.1 :: seen, ?_, sb_lt l4 v12, sn.add ct tn hl f1 e3 hv, es⟩
      rw [e2, e6, hv, if_neg (by omega), sb_shl v12, i_or9 (by omega) p12]
    · obtain ⟨l, seen, j, e, e2, l4, sn, es, fe, f1, e3, nS, e6, -⟩ := (h ct hl).2 f0
      have es := es9 ct hl es fe e3 nS
      refine ⟨fun v0 => by rw [es, if_pos v0], fun v0 => ?_⟩
      rw [if_neg (fun u => u v0), if_neg w29] at es
      exact ⟨by rw [es], by rw [es]⟩
  · rw [fst9_n f0]
    exact ⟨fun _ ct hl => ⟨(h ct hl).1, fun u => absurd u f0⟩, fun _ ct hl => ⟨(h ct hl).1, fun u => absurd u f0⟩⟩
/-- no ';' from k up to a -/
def no34 (W : Nat → Int) (k a : Nat) : Prop := k ≤ a ∧ ∀ j, k ≤ j → j < a → W j ≠ 34
theorem no34.sc (h : no34 W k a) (w : W a ≠ 34) : no34 W k (a + 1) := ⟨Nat.le_succ_of_le h.1, fun j h1 h2 => by
  by_cases e : j = a
  · rw [e]; exact w
  · exact h.2 j h1 (by omega)⟩
theorem Eo.rw9 {b j : Nat} (eo : Eo W 6 a b) (h1 : a ≤ j) (h2 : j < b) : rwd (W j) := by
  have u := (eo.pr.2.2.2.2.1.2.2.2 (j - a) (by omega)).1
  rw [show a + (j - a) = j by omega] at u
  exact u
theorem no34.eo {b : Nat} (h : no34 W k a) (eo : Eo W 6 a b) : no34 W k b := ⟨Nat.le_trans h.1 (Nat.le_of_lt eo.pr.1), fun j h1 h2 => by
  by_cases e : j < a
  · exact h.2 j h1 e
  · have u := eo.rw9 (j := j) (by omega) h2
    unfold rwd at u
    omega⟩
theorem no34.join {b : Nat} (h : no34 W k a) (g : no34 W a b) : no34 W k b := ⟨Nat.le_trans h.1 g.1, fun j h1 h2 => by
  by_cases e : j < a
  · exact h.2 j h1 e
  · exact g.2 j (by omega) h2⟩
/-- the sets are over, and no ';' stands in them -/
def seP (W pl : Nat → Int) (sm : Nat → Nat → Prop) (Nn : Nat) (Mc : mM) (q p c k0 : Nat) (nms : List nm9) (fS : Int × Int) (a : Nat) : Prop := seO W pl sm Nn Mc q p c k0 nms fS a ∧ no34 W k0 a
/-- the sets' end, exactly -/
def rsV (W : Nat → Int) (q : Nat) (ft : Int × Int) (X : Int × Int → Nat → Prop) (Y : mM → Prop) (x : Int) (M' : mM) : Prop := ∃ a' : Nat, mI M' (q + 1) 2 = a' ∧ ((x = 0 ∧ Rf W [50] 0 a') ∨ (x = 1 ∧ Rc W [50] 0 [57, 34, 50] a' ∧ ∃ fS : Int × Int, FT M' (q + 1) (fst9 ft fS) ∧ X fS a' ∧ Y M'))
/-- before a set, or behind the last -/
def rsJ (T A B D n V O P S0 : Nat) (W pl nq : Nat → Int) (sm : Nat → Nat → Prop) (Nn : Nat) (Mc : mM) (q p c k0 : Nat) (nms : List nm9) (ft : Int × Int) (X : Int × Int → Nat → Prop) (l1 l2 : Int) (i a : Nat) (M : mM) : Prop := WTq M T A B D n W pl nq sm ∧ ∃ fS : Int × Int, FT M (q + 1) (fst9 ft fS) ∧ ((l1 ≠ 0 ∧ i ≤ a ∧ Rc W [50] 0 [59, 60, 57, 34, 50] a ∧ seK W pl sm Nn Mc q p c k0 nms fS l2 i a ∧ no34 W k0 a ∧ seL W pl nq sm Nn n V Mc q p O P c k0 S0 nms i a M) ∨ (l1 = 0 ∧ Rc W [50] 0 [57, 34, 50] a ∧ X fS a ∧ seM W pl nq sm Nn n V Mc q p O P c k0 S0 nms M))
theorem x_rs_end {X : Int × Int → Nat → Prop} (h : rsI M0 z q w T A B D N C n p O P K Ab Be Cm V F ns sf ef c cnt L S0 a s9 M) (hF : FT M (q + 1) (fst9 ft fS)) (hR : Rc W [50] 0 [57, 34, 50] a) (hX : X fS a) (hY : seM W pl nq sm Nn n V Mc q p O P c k0 S0 nms M) : Ci G y_Pr_add d [vr p, vi 0, vi 0] M (fun x22 M21 => i32 x22 ∧ mOk M21 ∧ (rsQ9 M0 z q w T A B D N C n p O P K Ab Be Cm V F ns sf ef c cnt L S0 1 M21 ∧ rsV W q ft X (seE W pl nq sm Nn n V Mc q p O P c k0 S0 nms) 1 M21)) := by
  obtain ⟨h1, f1, a1, a2, p1, p2, p3, d1, c1, sc, hL⟩ := h
  obtain ⟨⟨np0, np1, -, -⟩, ⟨nO0, nO1, -, -, -⟩, nP0, nP1, -, -, -⟩ := h1.1.ne
  refine (s_tx_add (i32s (by omega) (by omega)) (i32s (by omega) (by omega)) h1 p1 (by omega) (by omega)).mono (fun v M' k => ?_)
  obtain ⟨v1, v2, v3, v4, v5, v6, v7, v8⟩ := k
  have e1 := v8 (q + 1) np1.symm nO1.symm nP1.symm
  refine ⟨v1, v2, ⟨f1.trans (v4.less p2), Or.inr ⟨rfl, v3, a, s9, by rw [e1]; exact a1, a2, v5, p2, p3, by rw [e1]; exact d1, by rw [e1]; exact c1, fun y => ?_⟩⟩, a, by rw [e1]; exact a1, Or.inr ⟨rfl, hR, fS, hF.same (by rw [e1]) (by rw [e1]), hX, hY.fin (s9 := s9) (fun u => by rw [e1] at u; exact u) p1 v5 (fun t ht => ⟨by rw [v6, if_neg (by omega)], by rw [v7, if_neg (by omega)]⟩) (by rw [v6, if_pos rfl])⟩⟩
  rw [e1] at y
  obtain ⟨H, u1, u2, u3, u4⟩ := sc y
  refine ⟨H, fun pc h0 h2 => ?_, u2, u3, by omega, by rw [v6, if_pos rfl], u4⟩
  rw [v6, v7, if_neg (by omega), if_neg (by omega)]
  exact u1 pc h0 h2
end TXP
end
