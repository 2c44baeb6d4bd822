section
section
/-! The class's reader of texts: where the orders of sets, chances and guards lie. -/
/-- a set is sound -/
def sOk (W pl : Nat → Int) (sm : Nat → Nat → Prop) (n V : Nat) (nms : List nm9) (q' : Nat × Nat × Nat × Nat) : Prop := Eo W 6 q'.2.1 q'.2.2.1 ∧ q'.2.2.1 ≤ n ∧ (fl W (E9 sm nms 0) pl 0 q'.2.1 q'.2.2.1).1 = 0 ∧ q'.1 < V ∧ 0 ≤ pl q'.2.2.2 ∧ pl q'.2.2.2 ≤ 16384
/-- the sets of a branch whose first word behind ':' is k0 -/
noncomputable def sll (W : Nat → Int) (sm : Nat → Nat → Prop) (Nn : Nat) (nms : List nm9) (k0 : Nat) : List (Nat × Nat × Nat × Nat) := if W k0 = 10 then [] else sel9 W sm Nn nms Nn k0
/-- i sets have been read, the next begins at the word k: their orders lie from S0 on -/
def seL (W pl nq : Nat → Int) (sm : Nat → Nat → Prop) (Nn n V : Nat) (Mc : mM) (q p O P c k0 S0 : Nat) (nms : List nm9) (i k : Nat) (M : mM) : Prop := CT Mc (q + 1) p nms → nms.length = c → mI M (q + 1) 3 = 0 → ∃ (l : List (Nat × Nat × Nat × Nat)) (s9 : Nat), mI M p 2 = ((s9 : Nat) : Int) ∧ sel9 W sm Nn nms Nn k0 = l ++ sel9 W sm Nn nms (Nn - i) k ∧ Scw (LfC W nq sm n nms) W pl (mI M O) (mI M P) l S0 s9 ∧ ∀ q', q' ∈ l → sOk W pl sm n V nms q'
/-- all sets have been read -/
def seM (W pl nq : Nat → Int) (sm : Nat → Nat → Prop) (Nn n V : Nat) (Mc : mM) (q p O P c k0 S0 : Nat) (nms : List nm9) (M : mM) : Prop := CT Mc (q + 1) p nms → nms.length = c → mI M (q + 1) 3 = 0 → ∃ s9 : Nat, mI M p 2 = ((s9 : Nat) : Int) ∧ Scw (LfC W nq sm n nms) W pl (mI M O) (mI M P) (sll W sm Nn nms k0) S0 s9 ∧ ∀ q', q' ∈ sll W sm Nn nms k0 → sOk W pl sm n V nms q'
/-- and their end is put behind them -/
def seE (W pl nq : Nat → Int) (sm : Nat → Nat → Prop) (Nn n V : Nat) (Mc : mM) (q p O P c k0 S0 : Nat) (nms : List nm9) (M : mM) : Prop := CT Mc (q + 1) p nms → nms.length = c → mI M (q + 1) 3 = 0 → ∃ s9 : Nat, mI M p 2 = ((s9 + 1 : Nat) : Int) ∧ mI M O s9 = 0 ∧ Scw (LfC W nq sm n nms) W pl (mI M O) (mI M P) (sll W sm Nn nms k0) S0 s9 ∧ ∀ q', q' ∈ sll W sm Nn nms k0 → sOk W pl sm n V nms q'
/-- a chance's orders and place are put down -/
def chD (W pl nq : Nat → Int) (sm : Nat → Nat → Prop) (Cf : Nat → Int × Int) (q p O P n c L ix a j : Nat) (nms : List nm9) (M M' : mM) : Prop := (mI M' (q + 1) 3 = 0 → (∀ i, 3 ≤ i → i ≤ 12 → mI M' (p + i) = mI M (p + i)) ∧ mI M' p 11 = mI M p 11 ∧ ∃ v e : Nat, mI M (p + 12) (ix + 1) = ((v : Nat) : Int) ∧ (∀ t, mI M' (p + 13) t = (if t = v then pl a else mI M (p + 13) t) ∧ mI M' (p + 14) t = (if t = v then ((L : Nat) : Int) else mI M (p + 14) t) ∧ mI M' (p + 15) t = (if t = v then ((e + 1 : Nat) : Int) else mI M (p + 15) t)) ∧ mI M' p 2 = ((e + 1 : Nat) : Int) ∧ mI M' O e = 0 ∧ Cd W Cf pl (mI M' O) (mI M' P) 0 0 0 a j L e ∧ cdE O P L M M') ∧ (CT M (q + 1) p nms → nms.length = c → LfC W nq sm n nms Cf)
section TXO1
variable {p n c r : Nat} {M : mM} {W nq E : Nat → Int} {Cf : Nat → Int × Int} {sm : Nat → Nat → Prop} {nms : List nm9}
/-- the orders of words, where all names may stand -/
theorem ECq.lf (ec : ECq M r p n W nq sm nms c 0 E Cf) (ct : CT M r p nms) (hl : nms.length = c) (hk : ∀ i, i < c → mI M (r + 9) i = 0 ∨ mI M (r + 9) i = 1) : LfC W nq sm n nms Cf := by
  obtain ⟨big, ec⟩ := ec
  obtain ⟨eE, ec⟩ := ec ct hl
  rw [if_pos rfl] at eE
  refine ⟨big, fun k kn => ?_⟩
  obtain ⟨c2, c12, c13, c1⟩ := ec k kn
  refine ⟨c2, c12, c13, fun h1 l1 e l2 he hs hno => ?_⟩
  have gl : nms[l1.length]? = some e := by
    rw [he, List.getElem?_append_right (Nat.le_refl _), Nat.sub_self]
    rfl
  have ne : E k ≠ -1 := by
    have fe : fnd9 sm nms k = some e := by
      unfold fnd9
      rw [List.find?_eq_some_iff_append]
      exact ⟨by simpa using hs, l1, l2, he, fun a ha => by simpa using hno a ha⟩
    rw [eE]
    unfold E9
    rw [fe]
    show (if (0 : Int) = 1 ∧ e.2.1 ≠ 1 then (-1 : Int) else e.2.2.1) ≠ -1
    rw [if_neg (fun u => absurd u.1 (by decide)), ← (ct.2 _ e gl).2.2.2.1]
    have := hk l1.length (by rw [← hl, he, List.length_append, List.length_cons]; omega)
    omega
  obtain ⟨i, e', z1, z2, -, z4, z5⟩ := c1 h1 ne
  have se' : sm e'.1 k := (fnd_sp z2).elim (fun _ ⟨_, _, q, _⟩ => q)
  have ii : i = l1.length := by
    rcases Nat.lt_trichotomy i l1.length with y | y | y
    · rw [he, List.getElem?_append_left y] at z1
      exact absurd se' (hno e' (List.mem_of_getElem? z1))
    · exact y
    · exact absurd hs (z5 _ e y gl)
  subst ii
  rw [gl] at z1
  have ee := Option.some.inj z1
  subst ee
  obtain ⟨-, t2, -, -, -, -, t7⟩ := ct.2 _ e gl
  have tk : nms.take l1.length = l1 := by rw [he, List.take_left]
  rw [z4, t2, t7, tk]
end TXO1
section TXO2
variable {W pl nq : Nat → Int} {sm : Nat → Nat → Prop} {Nn n V q p O P c k0 S0 i k j : Nat} {Mc M M' : mM} {nms : List nm9} {e : nm9}
theorem twt9 {P9 : nm9 → Bool} : ∀ (l : List nm9) (j : Nat) (e : nm9), l[j]? = some e → P9 e = false → (∀ (j' : Nat) (e' : nm9), j' < j → l[j']? = some e' → P9 e' = true) → l.takeWhile P9 = l.take j
  | [], j, e, h, _, _ => absurd h (by simp)
  | a :: l, 0, e, h, h1, _ => by
    have : a = e := Option.some.inj h
    subst this
    rw [List.takeWhile_cons, h1]
    rfl
  | a :: l, j + 1, e, h, h1, h2 => by
    have ha := h2 0 a (by omega) rfl
    rw [List.takeWhile_cons, ha, List.take_succ_cons]
    show a :: l.takeWhile P9 = _
    rw [twt9 l j e h h1 (fun j' e' hj z => h2 (j' + 1) e' (by omega) z)]
theorem vix_at (h : nms[j]? = some e) (h1 : sm e.1 k) (h2 : ∀ (j' : Nat) (e' : nm9), j' < j → nms[j']? = some e' → ¬ sm e'.1 k) : vix9 sm nms k = vcn (nms.take j) := by
  unfold vix9
  rw [twt9 nms j e h (by simpa using h1) (fun j' e' hj z => by simpa using h2 j' e' hj z)]
theorem seL.cg (h : seL W pl nq sm Nn n V Mc q p O P c k0 S0 nms i k M) (h3 : mI M' (q + 1) 3 = 0 → mI M (q + 1) 3 = 0) (hp : mI M' p 2 = mI M p 2) (hO : mI M' O = mI M O) (hP : mI M' P = mI M P) : seL W pl nq sm Nn n V Mc q p O P c k0 S0 nms i k M' := fun ct hl y => by
  obtain ⟨l, s9, a1, a2, a3, a4⟩ := h ct hl (h3 y)
  exact ⟨l, s9, by rw [hp]; exact a1, a2, by rw [hO, hP]; exact a3, a4⟩
/-- one set more -/
theorem seL.next {Cf : Nat → Int × Int} {s9 e9 a' : Nat} (h : seL W pl nq sm Nn n V Mc q p O P c k0 S0 nms i k M) (h3 : mI M' (q + 1) 3 = 0 → mI M (q + 1) 3 = 0) (hp : mI M p 2 = ((s9 : Nat) : Int)) (hp' : mI M' p 2 = ((e9 + 1 : Nat) : Int)) (hc : ∀ t, t < s9 → mI M' O t = mI M O t ∧ mI M' P t = mI M P t) (hi : i < Nn) (hk : W k0 ≠ 10) (cp : cpq W (k + 4) Nn = a') (hx : CT Mc (q + 1) p nms → nms.length = c → mI M' (q + 1) 3 = 0 → LfC W nq sm n nms Cf ∧ Cd W Cf pl (mI M' O) (mI M' P) 0 0 0 (k + 4) a' s9 e9 ∧ mI M' O e9 = 43 ∧ mI M' P e9 = pl k * 16 + ((vix9 sm nms (k + 1) : Nat) : Int) ∧ sOk W pl sm n V nms (vix9 sm nms (k + 1), k + 4, a', k)) : (W (a' + 1) = 29 → seL W pl nq sm Nn n V Mc q p O P c k0 S0 nms (i + 1) (a' + 2) M') ∧ (W (a' + 1) ≠ 29 → seM W pl nq sm Nn n V Mc q p O P c k0 S0 nms M') := by
  have key : CT Mc (q + 1) p nms → nms.length = c → mI M' (q + 1) 3 = 0 → ∃ l, sel9 W sm Nn nms Nn k0 = (l ++ [(vix9 sm nms (k + 1), k + 4, a', k)]) ++ (if W (a' + 1) = 29 then sel9 W sm Nn nms (Nn - (i + 1)) (a' + 2) else []) ∧ Scw (LfC W nq sm n nms) W pl (mI M' O) (mI M' P) (l ++ [(vix9 sm nms (k + 1), k + 4, a', k)]) S0 (e9 + 1) ∧ ∀ q', q' ∈ l ++ [(vix9 sm nms (k + 1), k + 4, a', k)] → sOk W pl sm n V nms q' := fun ct hl y => by
    obtain ⟨l, s9', a1, a2, a3, a4⟩ := h ct hl (h3 y)
    have es : s9' = s9 := by rw [hp] at a1; omega
    subst es
    obtain ⟨x1, x2, x3, x4, x5⟩ := hx ct hl y
    refine ⟨l, ?_, Scw.add (q := (vix9 sm nms (k + 1), k + 4, a', k)) x1 l (Scw.cg l a3 (fun t _ t2 => hc t t2)) x2 x3 x4, fun q' hq => ?_⟩
    · obtain ⟨f, hf⟩ : ∃ f, Nn - i = f + 1 := ⟨Nn - i - 1, by omega⟩
      rw [a2, hf, sel9, cp, show Nn - (i + 1) = f by omega, List.append_assoc]
      rfl
    · rcases List.mem_append.mp hq with u | u
      · exact a4 q' u
      · rw [List.mem_singleton.mp u]
        exact x5
  refine ⟨fun w29 ct hl y => ?_, fun w29 ct hl y => ?_⟩
  · obtain ⟨l, b1, b2, b3⟩ := key ct hl y
    rw [if_pos w29] at b1
    exact ⟨_, e9 + 1, hp', b1, b2, b3⟩
  · obtain ⟨l, b1, b2, b3⟩ := key ct hl y
    rw [if_neg w29, List.append_nil] at b1
    have e1 : sll W sm Nn nms k0 = l ++ [(vix9 sm nms (k + 1), k + 4, a', k)] := by
      unfold sll
      rw [if_neg hk, b1]
    refine ⟨e9 + 1, hp', ?_, ?_⟩
    · rw [e1]; exact b2
    · rw [e1]; exact b3
theorem seM.fin {s9 : Nat} (h : seM W pl nq sm Nn n V Mc q p O P c k0 S0 nms M) (h3 : mI M' (q + 1) 3 = 0 → mI M (q + 1) 3 = 0) (hp : mI M p 2 = ((s9 : Nat) : Int)) (hp' : mI M' p 2 = ((s9 + 1 : Nat) : Int)) (hc : ∀ t, t < s9 → mI M' O t = mI M O t ∧ mI M' P t = mI M P t) (h0 : mI M' O s9 = 0) : seE W pl nq sm Nn n V Mc q p O P c k0 S0 nms M' := fun ct hl y => by
  obtain ⟨s9', a1, a2, a3⟩ := h ct hl (h3 y)
  have es : s9' = s9 := by rw [hp] at a1; omega
  subst es
  exact ⟨s9', hp', h0, Scw.cg _ a2 (fun t _ t2 => hc t t2), a3⟩
end TXO2
end
section
/-! The class's reader of texts, exactly: the sets' faults, and one set. -/
section TXP
variable {G : mG} {d z q w T A B D N C n p O P K Ab Be Cm V F c s L cnt a s9 S0 k i k0 Nn a' : Nat} {M0 M M' M1 M2 Mc : mM} {ns : Nat → Int} {sf ef : Nat → Nat} {W pl nq E : Nat → Int} {sm : Nat → Nat → Prop} {nms : List nm9} {ft fS vR : Int × Int} {l2 l6 x : Int}
/-- the pure sets from the word k0 on -/
noncomputable abbrev sef0 (W pl : Nat → Int) (sm : Nat → Nat → Prop) (Nn : Nat) (nms : List nm9) (k0 : Nat) : (Int × Int) × Nat := sef W pl sm Nn nms Nn k0 []
/-- i sets have been read, the next begins at the word k; their fault fS, their vars l2 -/
def seK (W pl : Nat → Int) (sm : Nat → Nat → Prop) (Nn : Nat) (Mc : mM) (q p c k0 : Nat) (nms : List nm9) (fS : Int × Int) (l2 : Int) (i k : Nat) : Prop := CT Mc (q + 1) p nms → nms.length = c → (fS.1 ≠ 0 → (sef0 W pl sm Nn nms k0).1 = fS) ∧ (fS.1 = 0 → ∃ (l : Nat) (seen : List Nat), l2 = l ∧ l < 4096 ∧ snq Mc (q + 1) nms l seen ∧ sef0 W pl sm Nn nms k0 = sef W pl sm Nn nms (Nn - i) k seen)
/-- they are over at the word a -/
def seO (W pl : Nat → Int) (sm : Nat → Nat → Prop) (Nn : Nat) (Mc : mM) (q p c k0 : Nat) (nms : List nm9) (fS : Int × Int) (a : Nat) : Prop := CT Mc (q + 1) p nms → nms.length = c → (fS.1 ≠ 0 → (sef0 W pl sm Nn nms k0).1 = fS) ∧ (fS.1 = 0 → (sef0 W pl sm Nn nms k0).1.1 = 0 ∧ a = (sef0 W pl sm Nn nms k0).2)
def seNb (W pl : Nat → Int) (sm : Nat → Nat → Prop) (Nn : Nat) (Mc : mM) (q k0 : Nat) (nms : List nm9) (fS : Int × Int) (l2 l6 : Int) (i k : Nat) : Prop := (fS.1 ≠ 0 → (sef0 W pl sm Nn nms k0).1 = fS) ∧ (fS.1 = 0 → ∃ (l : Nat) (seen : List Nat) (j : Nat) (e : nm9), l2 = l ∧ l < 4096 ∧ snq Mc (q + 1) nms l seen ∧ sef0 W pl sm Nn nms k0 = sef W pl sm Nn nms (Nn - i) k seen ∧ fnd9 sm nms (k + 1) = some e ∧ fst1 nms j e ∧ e.2.1 = 3 ∧ e.1 ∉ seen ∧ l6 = mI Mc (q + 1 + 8) j ∧ l6 = ((vix9 sm nms (k + 1) : Nat) : Int))
/-- the next set's name has been read, its var is l6 -/
def seN (W pl : Nat → Int) (sm : Nat → Nat → Prop) (Nn : Nat) (Mc : mM) (q p c k0 : Nat) (nms : List nm9) (fS : Int × Int) (l2 l6 : Int) (i k : Nat) : Prop := CT Mc (q + 1) p nms → nms.length = c → seNb W pl sm Nn Mc q k0 nms fS l2 l6 i k
theorem srt9_5 {y : Nat} (h : 1 ≤ y ∧ y ≤ 3) : srt9 y = 5 ↔ y = 3 := by
  unfold srt9
  split
  · omega
  · split <;> omega
theorem seK.nm (h : seK W pl sm Nn Mc q p c k0 nms fS l2 i k) (hik : i ≤ k) (hN : n ≤ Nn) (hk : k + 1 < n) (ctM : CT Mc (q + 1) p nms → CT M (q + 1) p nms) (e8 : mI M (q + 1 + 8) = mI Mc (q + 1 + 8)) (wt : WTq M T A B D n W pl nq sm) (tn : TN M (q + 1) A n V F ns c) (V12 : V ≤ 12) (w1 : W (k + 1) = 1) (hx : (nmn M (q + 1) T B D c (k + 1) ∧ x = -1) ∨ ∃ i : Nat, fm M (q + 1) T B D c (k + 1) i ∧ x = if mI M (q + 1 + 7) i = 5 then mI M (q + 1 + 8) i else -1) : (x = -1 → seN W pl sm Nn Mc q p c k0 nms (fst9 fS (2, pl (k + 1))) l2 x i k) ∧ (x ≠ -1 → andI (shrI l2 x) 1 = 0 → seN W pl sm Nn Mc q p c k0 nms fS l2 x i k) ∧ (x ≠ -1 → andI (shrI l2 x) 1 ≠ 0 → seN W pl sm Nn Mc q p c k0 nms (fst9 fS (4, pl (k + 1))) l2 x i k) := by
  have key : CT Mc (q + 1) p nms → nms.length = c → (x = -1 → seNb W pl sm Nn Mc q k0 nms (fst9 fS (2, pl (k + 1))) l2 x i k) ∧ (x ≠ -1 → andI (shrI l2 x) 1 = 0 → seNb W pl sm Nn Mc q k0 nms fS l2 x i k) ∧ (x ≠ -1 → andI (shrI l2 x) 1 ≠ 0 → seNb W pl sm Nn Mc q k0 nms (fst9 fS (4, pl (k + 1))) l2 x i k) := fun ct hl => by
    obtain ⟨h1, h2⟩ := h ct hl
    by_cases f0 : fS.1 = 0
    · obtain ⟨l, seen, e2, l4, sn, es⟩ := h2 f0
      have es' := es
      obtain ⟨f, hf⟩ : ∃ f, Nn - i = f + 1 := ⟨Nn - i - 1, by
        clear hx h h1 h2
        omega⟩
      rw [hf] at es
      have cM := ctM ct
      have hw : ∀ i, i < nms.length → ∃ v : Nat, mI M (q + 1 + 6) i = v ∧ v < n ∧ mI M A v = 2 := fun i hi => (tn.2.2 i (by rw [← hl]; exact hi)).1
      rw [fst9_zr f0, fst9_zr f0]
      have bad : ∀ {y : Int}, y ≠ 0 → sef0 W pl sm Nn nms k0 = ((y, pl (k + 1)), k) → seNb W pl sm Nn Mc q k0 nms (y, pl (k + 1)) l2 x i k := fun {y} y0 u => ⟨fun _ => by rw [u], fun v => absurd v y0⟩
      rcases cM.fnd wt hw hk w1 with ⟨q1, q2⟩ | ⟨j, e, q1, q2, q3, q9⟩
      · rw [hl] at q1
        have ex : x = -1 := by
          rcases hx with u | ⟨j, u, -⟩
          · exact u.2
          · exact absurd u.2.1 (q1 j u.1)
        rw [sefc_none q2] at es
        exact ⟨fun _ => bad (by decide) es, fun u => absurd ex u, fun u => absurd ex u⟩
      · have f1 := fm_fst cM q1 q2
        rw [hl] at q1
        have ex : x = if mI M (q + 1 + 7) j = 5 then mI M (q + 1 + 8) j else -1 := by
          rcases hx with u | ⟨j', u, v⟩
          · exact absurd q1.2.1 (u.1 j q1.1)
          · rw [fm_un q1 u]
            exact v
        obtain ⟨-, s2, s3, -⟩ := cM.2 j e q2
        rw [sefc_some q3] at es
        by_cases e3 : e.2.1 = 3
        · have s5 : mI M (q + 1 + 7) j = 5 := by rw [s2]; exact (srt9_5 s3).mpr e3
          rw [if_pos s5] at ex
          have rg : 0 ≤ mI M (q + 1 + 8) j ∧ mI M (q + 1 + 8) j < V := by
            obtain ⟨-, u, -⟩ := tn.2.2 j q1.1
            rcases u with u | u
            · exact ⟨u.2.1, u.2.2⟩
            · rcases u.1 with v | v <;> rw [s5] at v <;> exact absurd v (by first | decide | simp)
          obtain ⟨v, hv⟩ : ∃ v : Nat, mI M (q + 1 + 8) j = v := ⟨(mI M (q + 1 + 8) j).toNat, by rw [Int.toNat_of_nonneg rg.1]⟩
          have v12 : v < 12 := by
            clear hx h h1 h2
            omega
          have vn : ((v : Nat) : Int) ≠ -1 := by
            clear hx h h1 h2
            omega
          rw [if_neg (fun u => u e3)] at es
          have sb := sn j e f1 e3
          rw [← e8, hv, Int.toNat_natCast] at sb
          have sb := (sb_and l4 v12).trans (not_congr sb)
          rw [← e2] at sb
          have vx : ((v : Nat) : Int) = ((vix9 sm nms (k + 1) : Nat) : Int) := by
            have t7 := (cM.2 j e q2).2.2.2.2.2.2
            rw [if_pos e3, hv] at t7
            rw [t7, vix_at q2 (by obtain ⟨_, _, _, qs, _⟩ := fnd_sp q3; exact qs) q9]
          rw [ex, hv]
          refine ⟨fun u => absurd u vn, fun _ u => ⟨fun u => absurd f0 u, fun _ => ⟨l, seen, j, e, e2, l4, sn, es', q3, f1, e3, sb.mp u, by rw [← e8, hv], vx⟩⟩, fun _ u => ?_⟩
          have mem : e.1 ∈ seen := Classical.byContradiction (fun z => u (sb.mpr z))
          rw [if_pos mem] at es
          have b := bad (y := 4) (by decide) es
          rw [ex, hv] at b
          exact b
        · have s5 : mI M (q + 1 + 7) j ≠ 5 := by
            rw [s2]
            exact fun u => e3 ((srt9_5 s3).mp u)
          rw [if_neg s5] at ex
          rw [if_pos e3] at es
          exact ⟨fun _ => bad (by decide) es, fun u => absurd ex u, fun u => absurd ex u⟩
    · rw [fst9_n f0, fst9_n f0]
      have all : seNb W pl sm Nn Mc q k0 nms fS l2 x i k := ⟨h1, fun u => absurd u f0⟩
      exact ⟨fun _ => all, fun _ _ => all, fun _ _ => all⟩
  exact ⟨fun u ct hl => (key ct hl).1 u, fun u v ct hl => (key ct hl).2.1 u v, fun u v ct hl => (key ct hl).2.2 u v⟩
theorem seN.next (h : seN W pl sm Nn Mc q p c k0 nms fS l2 l6 i k) (hik : i ≤ k) (hN : n ≤ Nn) (hk : k < n) (tn : TN Mc (q + 1) A n V F ns c) (V12 : V ≤ 12) (eo : Eo W 6 (k + 4) a') (w37 : W a' = 37) (ha' : a' < n) (hvr : CT Mc (q + 1) p nms → nms.length = c → ∀ e, fnd9 sm nms (k + 1) = some e → vR = rf9 W pl sm nms 0 e.2.2.1 (k + 4) a') : (W (a' + 1) = 29 → seK W pl sm Nn Mc q p c k0 nms (fst9 fS vR) (orI l2 (if l6 = -1 then 0 else shlI 1 l6)) (i + 1) (a' + 2)) ∧ (W (a' + 1) ≠ 29 → seO W pl sm Nn Mc q p c k0 nms (fst9 fS vR) (a' + 1)) := by
  have es9 : ∀ {e : nm9} {seen : List Nat}, CT Mc (q + 1) p nms → nms.length = c → sef0 W pl sm Nn nms k0 = sef W pl sm Nn nms (Nn - i) k seen → fnd9 sm nms (k + 1) = some e → e.2.1 = 3 → e.1 ∉ seen → sef0 W pl sm Nn nms k0 = if vR.1 ≠ 0 then (vR, k) else if W (a' + 1) = 29 then sef W pl sm Nn nms (Nn - (i + 1)) (a' + 2) (e.1 :: seen) else ((0, 0), a' + 1) := fun {e seen} ct hl es fe e3 nS => by
    have ev := hvr ct hl e fe
    have cp : cpq W (k + 4) Nn = a' := cpq_at eo w37 (by omega)
    obtain ⟨f, hf⟩ : ∃ f, Nn - i = f + 1 := ⟨Nn - i - 1, by omega⟩
    have hf2 : Nn - (i + 1) = f := by omega
    rw [hf, sefc_some fe, if_neg (fun u => u e3), if_neg nS, cp, ← ev] at es
    rw [hf2]
    exact es
  by_cases f0 : fS.1 = 0
  · rw [fst9_zr f0]
    refine ⟨fun w29 ct hl => ?_, fun w29 ct hl => ?_⟩
    · obtain ⟨l, seen, j, e, e2, l4, sn, es, fe, f1, e3, nS, e6, -⟩ := (h ct hl).2 f0
      have es := es9 ct hl es fe e3 nS
      refine ⟨fun v0 => by rw [es, if_pos v0], fun v0 => ?_⟩
      rw [if_neg (fun u => u v0), if_pos w29] at es
      have jc : j < c := by rw [← hl]; exact (List.getElem?_eq_some_iff.mp f1.1).1
      have s5 : mI Mc (q + 1 + 7) j = 5 := by
        obtain ⟨-, s2, s3, -⟩ := ct.2 j e f1.1
        rw [s2]
        exact (srt9_5 s3).mpr e3
      have rg : 0 ≤ mI Mc (q + 1 + 8) j ∧ mI Mc (q + 1 + 8) j < V := by
        obtain ⟨-, u, -⟩ := tn.2.2 j jc
        rcases u with u | u
        · exact ⟨u.2.1, u.2.2⟩
        · rcases u.1 with v | v <;> rw [s5] at v <;> exact absurd v (by first | decide | simp)
      obtain ⟨v, hv⟩ : ∃ v : Nat, mI Mc (q + 1 + 8) j = v := ⟨(mI Mc (q + 1 + 8) j).toNat, by rw [Int.toNat_of_nonneg rg.1]⟩
      have v12 : v < 12 := by
        clear h hvr
        omega
      have p12 : 2 ^ v < 2147483648 := Nat.lt_trans (Nat.pow_lt_pow_right (by decide) v12) (by decide)
      refine ⟨l ||| 2 ^ v, e.1 :: seen, ?_, sb_lt l4 v12, sn.add ct tn hl f1 e3 hv, es⟩
      rw [e2, e6, hv, if_neg (by omega), sb_shl v12, i_or9 (by omega) p12]
    · obtain ⟨l, seen, j, e, e2, l4, sn, es, fe, f1, e3, nS, e6, -⟩ := (h ct hl).2 f0
      have es := es9 ct hl es fe e3 nS
      refine ⟨fun v0 => by rw [es, if_pos v0], fun v0 => ?_⟩
      rw [if_neg (fun u => u v0), if_neg w29] at es
      exact ⟨by rw [es], by rw [es]⟩
  · rw [fst9_n f0]
    exact ⟨fun _ ct hl => ⟨(h ct hl).1, fun u => absurd u f0⟩, fun _ ct hl => ⟨(h ct hl).1, fun u => absurd u f0⟩⟩
/-- no ';' from k up to a -/
def no34 (W : Nat → Int) (k a : Nat) : Prop := k ≤ a ∧ ∀ j, k ≤ j → j < a → W j ≠ 34
theorem no34.sc (h : no34 W k a) (w : W a ≠ 34) : no34 W k (a + 1) := ⟨Nat.le_succ_of_le h.1, fun j h1 h2 => by
  by_cases e : j = a
  · rw [e]; exact w
  · exact h.2 j h1 (by omega)⟩
theorem Eo.rw9 {b j : Nat} (eo : Eo W 6 a b) (h1 : a ≤ j) (h2 : j < b) : rwd (W j) := by
  have u := (eo.pr.2.2.2.2.1.2.2.2 (j - a) (by omega)).1
  rw [show a + (j - a) = j by omega] at u
  exact u
theorem no34.eo {b : Nat} (h : no34 W k a) (eo : Eo W 6 a b) : no34 W k b := ⟨Nat.le_trans h.1 (Nat.le_of_lt eo.pr.1), fun j h1 h2 => by
  by_cases e : j < a
  · exact h.2 j h1 e
  · have u := eo.rw9 (j := j) (by omega) h2
    unfold rwd at u
    omega⟩
theorem no34.join {b : Nat} (h : no34 W k a) (g : no34 W a b) : no34 W k b := ⟨Nat.le_trans h.1 g.1, fun j h1 h2 => by
  by_cases e : j < a
  · exact h.2 j h1 e
  · exact g.2 j (by omega) h2⟩
/-- the sets are over, and no ';' stands in them -/
def seP (W pl : Nat → Int) (sm : Nat → Nat → Prop) (Nn : Nat) (Mc : mM) (q p c k0 : Nat) (nms : List nm9) (fS : Int × Int) (a : Nat) : Prop := seO W pl sm Nn Mc q p c k0 nms fS a ∧ no34 W k0 a
/-- the sets' end, exactly -/
def rsV (W : Nat → Int) (q : Nat) (ft : Int × Int) (X : Int × Int → Nat → Prop) (Y : mM → Prop) (x : Int) (M' : mM) : Prop := ∃ a' : Nat, mI M' (q + 1) 2 = a' ∧ ((x = 0 ∧ Rf W [50] 0 a') ∨ (x = 1 ∧ Rc W [50] 0 [57, 34, 50] a' ∧ ∃ fS : Int × Int, FT M' (q + 1) (fst9 ft fS) ∧ X fS a' ∧ Y M'))
/-- before a set, or behind the last -/
def rsJ (T A B D n V O P S0 : Nat) (W pl nq : Nat → Int) (sm : Nat → Nat → Prop) (Nn : Nat) (Mc : mM) (q p c k0 : Nat) (nms : List nm9) (ft : Int × Int) (X : Int × Int → Nat → Prop) (l1 l2 : Int) (i a : Nat) (M : mM) : Prop := WTq M T A B D n W pl nq sm ∧ ∃ fS : Int × Int, FT M (q + 1) (fst9 ft fS) ∧ ((l1 ≠ 0 ∧ i ≤ a ∧ Rc W [50] 0 [59, 60, 57, 34, 50] a ∧ seK W pl sm Nn Mc q p c k0 nms fS l2 i a ∧ no34 W k0 a ∧ seL W pl nq sm Nn n V Mc q p O P c k0 S0 nms i a M) ∨ (l1 = 0 ∧ Rc W [50] 0 [57, 34, 50] a ∧ X fS a ∧ seM W pl nq sm Nn n V Mc q p O P c k0 S0 nms M))
theorem x_rs_end {X : Int × Int → Nat → Prop} (h : rsI M0 z q w T A B D N C n p O P K Ab Be Cm V F ns sf ef c cnt L S0 a s9 M) (hF : FT M (q + 1) (fst9 ft fS)) (hR : Rc W [50] 0 [57, 34, 50] a) (hX : X fS a) (hY : seM W pl nq sm Nn n V Mc q p O P c k0 S0 nms M) : Ci G y_Pr_add d [vr p, vi 0, vi 0] M (fun x22 M21 => i32 x22 ∧ mOk M21 ∧ (rsQ9 M0 z q w T A B D N C n p O P K Ab Be Cm V F ns sf ef c cnt L S0 1 M21 ∧ rsV W q ft X (seE W pl nq sm Nn n V Mc q p O P c k0 S0 nms) 1 M21)) := by
  obtain ⟨h1, f1, a1, a2, p1, p2, p3, d1, c1, sc, hL⟩ := h
  obtain ⟨⟨np0, np1, -, -⟩, ⟨nO0, nO1, -, -, -⟩, nP0, nP1, -, -, -⟩ := h1.1.ne
  refine (s_tx_add (i32s (by omega) (by omega)) (i32s (by omega) (by omega)) h1 p1 (by omega) (by omega)).mono (fun v M' k => ?_)
  obtain ⟨v1, v2, v3, v4, v5, v6, v7, v8⟩ := k
  have e1 := v8 (q + 1) np1.symm nO1.symm nP1.symm
  refine ⟨v1, v2, ⟨f1.trans (v4.less p2), Or.inr ⟨rfl, v3, a, s9, by rw [e1]; exact a1, a2, v5, p2, p3, by rw [e1]; exact d1, by rw [e1]; exact c1, fun y => ?_⟩⟩, a, by rw [e1]; exact a1, Or.inr ⟨rfl, hR, fS, hF.same (by rw [e1]) (by rw [e1]), hX, hY.fin (s9 := s9) (fun u => by rw [e1] at u; exact u) p1 v5 (fun t ht => ⟨by rw [v6, if_neg (by omega)], by rw [v7, if_neg (by omega)]⟩) (by rw [v6, if_pos rfl])⟩⟩
  rw [e1] at y
  obtain ⟨H, u1, u2, u3, u4⟩ := sc y
  refine ⟨H, fun pc h0 h2 => ?_, u2, u3, by omega, by rw [v6, if_pos rfl], u4⟩
  rw [v6, v7, if_neg (by omega), if_neg (by omega)]
  exact u1 pc h0 h2
end TXP
end
end
section
/-! The class's reader of texts, exactly: one set, from behind its name on. -/
section TXQ
variable {G : mG} {d z q w T A B D N C n p O P K Ab Be Cm V F c s L cnt a s9 S0 k i k0 Nn : Nat} {M0 M M' M1 M2 : mM} {ns : Nat → Int} {sf ef : Nat → Nat} {W pl nq : Nat → Int} {sm : Nat → Nat → Prop} {nms : List nm9} {ft fS : Int × Int}
theorem kft_kd {tr : Int} {E : Nat → Int} {x y : Nat} (l1 : Int) (ht : tr = 0 ∨ tr = 1) (hl : l1 = if tr = 0 then 1 else 2) : (l1 = 0 ∨ kdq W E 0 x y = (if l1 = 2 then 1 else 0)) ↔ kdq W E 0 x y = tr := by
  rcases ht with u | u
  · rw [u, if_pos rfl] at hl
    rw [hl, u]
    simp
  · rw [u, if_neg (by decide)] at hl
    rw [hl, u]
    simp
theorem hz37 : ∀ j, lwx (W j) = 3 → Rf W [37, 75, 60, 57, 34, 50] j j := fun j hj => Rf.of (mst_tn (by decide) (fun u => by
  rw [← u] at hj
  exact absurd hj (by first | decide | simp)))
theorem rc60 {zr : List Int} (h : W a ≠ 29) : Rc W (60 :: zr) a zr a := Rc.one (mst_n (by decide) (by decide) (ys := []) (t := 0) (by
  show ex60 (W a) = _
  unfold ex60
  rw [if_neg h]) (Or.inl (by decide)))
theorem rc60m {zr : List Int} (h : W a = 29) : Rc W (60 :: zr) a (59 :: 60 :: zr) (a + 1) := Rc.one (mst_n (by decide) (by decide) (ys := [59, 60]) (t := 1) (by
  show ex60 (W a) = _
  unfold ex60
  rw [if_pos h]) (Or.inl (by decide)))
theorem i43_ {l4 l6 : Int} {V : Nat} (b4 : 0 ≤ l4 ∧ l4 ≤ 16384) (h6 : l6 = -1 ∨ (0 ≤ l6 ∧ l6 < V)) (hV : V ≤ 16384) : i32 ((l4 * 16) + (if l6 < 0 then 0 else l6)) := by
  split <;> exact ⟨by omega, by omega⟩
theorem x_rs168 {l2 l3 l4 l6 : Int} (i2 : i32 l2) (i3 : i32 l3) (b4 : 0 ≤ l4 ∧ l4 ≤ 16384) (h6 : l6 = -1 ∨ (0 ≤ l6 ∧ l6 < V)) (e4 : l4 = pl k) (w10 : W k0 ≠ 10) (sl : seL W pl nq sm Nn n V M0 q p O P c k0 S0 nms i k M) (hw : k + 1 < n ∧ mI M A (k + 1) = 2) (h : rsI M0 z q w T A B D N C n p O P K Ab Be Cm V F ns sf ef c cnt L S0 (k + 2) s9 M) (hf : l6 = -1 → mI M (q + 1) 3 ≠ 0) (wt : WTq M T A B D n W pl nq sm) (hFT : FT M (q + 1) (fst9 ft fS)) (w1 : W (k + 1) = 1) (sn : seN W pl sm Nn M0 q p c k0 nms fS l2 l6 i k) (hR : Rc W [50] 0 [38, 23, 61, 37, 75, 60, 57, 34, 50] (k + 2)) (hik : i ≤ k) (hNn : n ≤ Nn) (tn0 : TN M0 (q + 1) A n V F ns c) (n4 : no34 W k0 (k + 2)) (nx : ∀ (M1 : mM) (l1 l2 : Int) (a' s' : Nat), i32 l1 → i32 l2 → rsI M0 z q w T A B D N C n p O P K Ab Be Cm V F ns sf ef c cnt L S0 a' s' M1 → rsJ T A B D n V O P S0 W pl nq sm Nn M0 q p c k0 nms ft (seP W pl sm Nn M0 q p c k0 nms) l1 l2 (i + 1) a' M1 → h_TR_readSets_22 G (d + 5) q l1 l2 (l3 + 1) M1 (fun x M' => rsQ9 M0 z q w T A B D N C n p O P K Ab Be Cm V F ns sf ef c cnt L S0 x M' ∧ rsV W q ft (seP W pl sm Nn M0 q p c k0 nms) (seE W pl nq sm Nn n V M0 q p O P c k0 S0 nms) x M')) : h_TR_readSets_168 G (d + 5) q l2 l3 l4 ((k + 1 : Nat) : Int) l6 M (fun x M' => rsQ9 M0 z q w T A B D N C n p O P K Ab Be Cm V F ns sf ef c cnt L S0 x M' ∧ rsV W q ft (seP W pl sm Nn M0 q p c k0 nms) (seE W pl nq sm Nn n V M0 q p O P c k0 S0 nms) x M') := by
  obtain ⟨h1, f1, a1, a2, p1, p2, p3, d1, c1, sc, hL⟩ := h
  obtain ⟨⟨np0, np1, -, -⟩, ⟨nO0, nO1, -, -, nOp⟩, nP0, nP1, -, -, nPp⟩ := h1.1.ne
  obtain ⟨q01, q10, q210, q211, -⟩ := q_ne q
  have hV := h1.2.1.1.2
  have hN : n ≤ 16384 := by have := h1.1.1.2.2.2.1.2.2.1; have := h1.1.1.2.2.2.1.1.2.2.2.2.2.2.1; omega
  obtain ⟨t0, t1, t2, t3, t4, t5⟩ := h1.1.2.1
  refine k_TR_readSets_168 h1.1.1.1 i2 i3 (i32s (by omega) (by omega)) (i32s (by omega) (by omega)) (i32s (by omega) (by omega)) (fun v73 e73 => ?_)
  have i73 : i32 (orI l2 v73) := m_i32 _
  rw [t1, d1]
  refine ⟨t0, h1.1.1.2.1.1, ⟨by decide, by decide⟩, fun M80 e80 => ?_⟩
  obtain ⟨h80, x80, g80⟩ := tx_ui h1 ⟨by decide, by decide⟩ e80 (Or.inr (Or.inr (Or.inr (Or.inl ⟨rfl, Or.inr (Or.inl rfl)⟩))))
  have f80 : txF M0 q p O P S0 M80 := f1.trans ⟨x80.1, x80.2.1, x80.2.2.1, x80.2.2.2.1, x80.2.2.2.2.1, x80.2.2.2.2.2.1, fun i _ => ⟨by rw [g80, if_neg (fun u => nO1 u.1)], by rw [g80, if_neg (fun u => nP1 u.1)]⟩⟩
  have r80 : ∀ i, i ≠ 5 → mI M80 (q + 1) i = mI M (q + 1) i := fun i hi => by rw [g80, if_neg (fun u => hi u.2)]
  have b80 : ∀ b, b ≠ q + 1 → mI M80 b = mI M b := fun b hb => by
    funext i
    rw [g80, if_neg (fun u => hb u.1)]
  have d80 : mI M80 (q + 1) 5 = ((1 : Nat) : Int) := by rw [g80, if_pos ⟨rfl, rfl⟩]; rfl
  have a80 : mI M80 (q + 1) 2 = ((k + 2 : Nat) : Int) := by rw [r80 2 (by decide)]; exact a1
  have wt80 : WTq M80 T A B D n W pl nq sm := wt.fi h1.1 x80.1
  rw [h80.1.2.1.2.1]
  refine ⟨h80.1.1.2.1.1, (x_tx_accept (x := 39) (i32s (by omega) (by omega)) (by omega) h80 a80 a2).mono (fun x84 M83 kk => ?_)⟩
  obtain ⟨i84, o83, -, h83, x83, k83, r83, b83, m83⟩ := kk
  have f83 : txF M0 q p O P S0 M83 := f80.trans ⟨x83.1, x83.2.1, x83.2.2.1, x83.2.2.2.1, x83.2.2.2.2.1, x83.2.2.2.2.2.1, fun i _ => ⟨by rw [b83 O nO1], by rw [b83 P nP1]⟩⟩
  refine ⟨i84, o83, fun y => ?_, fun y => ?_⟩
  · rw [(k83.resolve_left (fun u => by rw [y] at u; exact absurd u.1 (by first | decide | simp))).2]
    exact ⟨⟨f80, Or.inl ⟨rfl, h80, k + 2, a80, a2⟩⟩, k + 2, a80, Or.inl ⟨rfl, rf_t hR (fun u => m83 y ((wt80.is a2 (by decide) (by decide)).mpr u)) (by decide)⟩⟩
  obtain ⟨-, e38, a83, an83⟩ := k83.resolve_right (fun u => y u.1)
  clear k83
  have rc3 : Rc W [50] 0 [23, 61, 37, 75, 60, 57, 34, 50] (k + 3) := rc_t hR ((wt80.is a2 (by decide) (by decide)).mp e38) (by decide)
  have wt83 : WTq M83 T A B D n W pl nq sm := wt80.fi h80.1 x83.1
  rw [h83.1.2.1.2.1]
  refine ⟨h83.1.2.1.1, h83.1.1.2.1.1, (x_tx_accept (x := 24) (i32s (by omega) (by omega)) (by omega) h83 a83 an83).mono (fun x91 M90 kk => ?_)⟩
  obtain ⟨i91, o90, -, h90, x90, k90, r90, b90, m90⟩ := kk
  have f90 : txF M0 q p O P S0 M90 := f83.trans ⟨x90.1, x90.2.1, x90.2.2.1, x90.2.2.2.1, x90.2.2.2.2.1, x90.2.2.2.2.2.1, fun i _ => ⟨by rw [b90 O nO1], by rw [b90 P nP1]⟩⟩
  refine ⟨i91, o90, fun y => ?_, fun y => ?_⟩
  · rw [(k90.resolve_left (fun u => by rw [y] at u; exact absurd u.1 (by first | decide | simp))).2]
    exact ⟨⟨f83, Or.inl ⟨rfl, h83, k + 3, a83, an83⟩⟩, k + 3, a83, Or.inl ⟨rfl, rf_t rc3 (fun u => m90 y ((wt83.is an83 (by decide) (by decide)).mpr u)) (by decide)⟩⟩
  obtain ⟨-, e23, a90, an90⟩ := k90.resolve_right (fun u => y u.1)
  clear k90
  have rc4 : Rc W [50] 0 [61, 37, 75, 60, 57, 34, 50] (k + 4) := rc_t rc3 ((wt83.is an83 (by decide) (by decide)).mp e23) (by decide)
  have wt90 : WTq M90 T A B D n W pl nq sm := wt83.fi h83.1 x90.1
  have A90 : mI M90 A (k + 1) = 2 := by rw [(h83.1.words x90.1).1, (h80.1.words x83.1).1, (h1.1.words x80.1).1]; exact hw.2
  have p90 : mI M90 p 2 = ((s9 : Nat) : Int) := by rw [b90 p np1, b83 p np1, b80 p np1]; exact p1
  have d90 : mI M90 (q + 1) 5 = ((1 : Nat) : Int) := by rw [r90 5 (by decide), r83 5 (by decide)]; exact d80
  have c90 : mI M90 (q + 1) 6 = 0 := by rw [r90 6 (by decide), r83 6 (by decide), r80 6 (by decide)]; exact c1
  have l90 : mI M90 (q + 1) 3 = mI M (q + 1) 3 := by rw [r90 3 (by decide), r83 3 (by decide), r80 3 (by decide)]
  have F90 : FT M90 (q + 1) (fst9 ft fS) := hFT.same l90 (by rw [r90 4 (by decide), r83 4 (by decide), r80 4 (by decide)])
  have sc90 : mI M (q + 1) 3 = 0 → scI M90 O P V F ns S0 s9 := fun y => (sc y).cg (fun i _ => ⟨by rw [b90 O nO1, b83 O nO1, b80 O nO1], by rw [b90 P nP1, b83 P nP1, b80 P nP1]⟩)
  have n5 : no34 W k0 (k + 4) := (n4.sc (by rw [(wt80.is (y := 38) a2 (by decide) (by decide)).mp e38]; decide)).sc (by rw [(wt83.is (y := 23) an83 (by decide) (by decide)).mp e23]; decide)
  have pM := p1
  have oo9 : ∀ t, mI M90 O t = mI M O t ∧ mI M90 P t = mI M P t := fun t => by rw [b90 O nO1, b83 O nO1, b80 O nO1, b90 P nP1, b83 P nP1, b80 P nP1]; exact ⟨rfl, rfl⟩
  clear x80 g80 r80 b80 d80 a80 f80 f83 r83 b83 r90 b90 x83 x90 h80 sc a1 p1 d1 c1 f1 m83 m90 wt80 wt83 wt hFT hR rc3
  rw [h90.1.2.1.2.1]
  refine ⟨h90.1.2.1.1, h90.1.1.2.1.1, (x_RR_kindOf h90.1.1 h90.2.1.2.2.1.nk hw.1 A90).mono (fun x98 M97 kk => ?_)⟩
  obtain ⟨e97, ⟨x980, x981⟩, x982⟩ := kk
  subst e97
  have x982 : Hid ((nmn M97 (q + 1) T B D c (k + 1) ∧ x98 = 0) ∨ ∃ i : Nat, fm M97 (q + 1) T B D c (k + 1) i ∧ x98 = if mI M97 (q + 1 + 9) i = 0 then 1 else 2) := x982
  have hw97 : ∀ i, i < c → ∃ v : Nat, mI M97 (q + 1 + 6) i = v ∧ v < n ∧ mI M97 A v = 2 := fun i hi => (h90.2.1.2.2.1.2.2 i hi).1
  have k01 : ∀ i, i < c → mI M97 (q + 1 + 9) i = 0 ∨ mI M97 (q + 1 + 9) i = 1 := fun i hi => (h90.2.1.2.2.1.2.2 i hi).2.2
  obtain ⟨E, Cf, uq, big, ec⟩ := uq_ex (p := p) (nms := nms) (c := c) wt90 hw97 c90
  have lf9 : CT M97 (q + 1) p nms → nms.length = c → LfC W nq sm n nms Cf := fun ct hl => ECq.lf (c := c) (E := E) (M := M97) (r := q + 1) (p := p) ⟨big, ec⟩ ct hl k01
  have ec : CT M97 (q + 1) p nms → nms.length = c → E = E9 sm nms 0 := fun ct hl => (ec ct hl).1
  refine ⟨i32s (by omega) (by omega), o90, h90.1.1.2.1.1, (x_tx_rule (u := (W, E, pl, Cf, (k + 4, fst9 ft fS), ([37, 75, 60, 57, 34, 50], 6), ([50], 0))) (d0 := 1) (i32s (by omega) (by omega)) (i32s (by omega) (by omega)) h90 a90 (by omega) p90 (by omega) (by omega) d90 (by omega) h90.2.1.2.2.1.nk (uq _) rfl F90 (by rw [d90]; rfl) ⟨fun y => absurd y (by first | decide | simp), fun _ => rfl⟩ hz37 rc4).mono (fun x102 M101 kk => ?_)⟩
  obtain ⟨i102, o101, ⟨h101, x101, ⟨c101, -⟩, k101⟩, a9, ea9, rv⟩ := kk
  have f101 : txF M0 q p O P S0 M101 := f90.trans (x101.less p2)
  refine ⟨i102, o101, fun y => ?_, fun y => ?_⟩
  · obtain ⟨-, u⟩ := k101.resolve_right (fun u => by rw [y] at u; exact absurd u.1 (by first | decide | simp))
    refine ⟨⟨f101, Or.inl ⟨rfl, h101, u⟩⟩, a9, ea9, Or.inl ⟨rfl, ?_⟩⟩
    rcases rv with ⟨-, rv⟩ | ⟨rv, -⟩
    · exact rv
    · exact absurd y (by rw [rv]; decide)
  obtain ⟨-, e, H1, a', u1, u2, u3, u4, u5, u6, u7, u8, u9, u10⟩ := k101.resolve_left (fun u => y u.1)
  clear k101
  have ea' : a' = a9 := by
    rw [u6] at ea9
    clear rv nx sc90 u1
    omega
  obtain ⟨L9, g1, g2, g3, g4, g5, g6, g7⟩ : rlD (W, E, pl, Cf, (k + 4, fst9 ft fS), ([37, 75, 60, 57, 34, 50], 6), ([50], 0)) (q + 1) p O P s9 a9 _ M101 := (rv.resolve_left (fun u => y u.1)).2
  clear rv
  subst ea'
  have g2 : Eo W 6 (k + 4) a' := g2
  have g7 : Rc W [50] 0 [37, 75, 60, 57, 34, 50] a' := g7
  have g4 : FT M101 (q + 1) (fst9 (fst9 (fst9 ft fS) (fl W E pl 0 (k + 4) a')) (kft (x98 = 0 ∨ kdq W E 0 (k + 4) a' = (if x98 = 2 then 1 else 0)) (pl (k + 4)))) := g4
  obtain ⟨vr, hvr⟩ : ∃ vr, vr = fst9 (fl W E pl 0 (k + 4) a') (kft (x98 = 0 ∨ kdq W E 0 (k + 4) a' = (if x98 = 2 then 1 else 0)) (pl (k + 4))) := ⟨_, rfl⟩
  rw [fst9_as, fst9_as, ← hvr] at g4
  have vr9 : CT M0 (q + 1) p nms → nms.length = c → ∀ e, fnd9 sm nms (k + 1) = some e → vr = rf9 W pl sm nms 0 e.2.2.1 (k + 4) a' := fun ct hl e fe => by
    have ct9 := ct.tx f90.2
    have eE := ec ct9 hl
    rcases ct9.fnd wt90 (by rw [hl]; exact hw97) hw.1 w1 with ⟨-, z2⟩ | ⟨j, e', z1, z2, z3, -⟩
    · rw [fe] at z2
      exact absurd z2 (by simp)
    · rw [fe] at z3
      have ee : e = e' := Option.some.inj z3
      subst ee
      rw [hl] at z1
      have xe : x98 = if e.2.2.1 = 0 then 1 else 2 := by
        rcases x982 with v | ⟨j', v1, v2⟩
        · exact absurd z1.2.1 (v.1 j z1.1)
        · rw [← fm_un z1 v1, (ct9.2 j e z2).2.2.2.1] at v2
          exact v2
      have e01 : e.2.2.1 = 0 ∨ e.2.2.1 = 1 := by
        rw [← (ct9.2 j e z2).2.2.2.1]
        exact k01 j z1.1
      rw [hvr, propext (kft_kd x98 e01 xe), eE]
      rfl
  have wt101 : WTq M101 T A B D n W pl nq sm := wt90.fi h90.1 x101.1
  have g5 : Cd W Cf pl (mI M101 O) (mI M101 P) 0 0 0 (k + 4) a' s9 L9 := g5
  have eL9 : e = L9 := by rw [u5] at g1; omega
  subst eL9
  clear g1 g3 g6 ec uq x982 hw97 k01 hvr
  rw [h101.1.2.1.2.1]
  refine ⟨h101.1.2.1.1, h101.1.1.2.1.1, (x_tx_accept (x := 38) (i32s (by omega) (by omega)) (by omega) h101 u6 u8).mono (fun x109 M108 kk => ?_)⟩
  obtain ⟨i109, o108, -, h108, x108, k108, r108, b108, m108⟩ := kk
  refine ⟨i109, o108, fun y => ?_, fun y => ?_⟩
  · rw [(k108.resolve_left (fun u => by rw [y] at u; exact absurd u.1 (by first | decide | simp))).2]
    exact ⟨⟨f101, Or.inl ⟨rfl, h101, a', u6, u8⟩⟩, a', u6, Or.inl ⟨rfl, rf_t g7 (fun u => m108 y ((wt101.is u8 (by decide) (by decide)).mpr u)) (by decide)⟩⟩
  obtain ⟨-, e37, a108, an108⟩ := k108.resolve_right (fun u => y u.1)
  clear k108
  have w37 : W a' = 37 := (wt101.is u8 (by decide) (by decide)).mp e37
  have n6 : no34 W k0 (a' + 1) := (n5.eo g2).sc (by rw [w37]; decide)
  have rc6 : Rc W [50] 0 [60, 57, 34, 50] (a' + 1) := (rc_t g7 w37 (by decide)).trans (Rc.zero mst_75)
  have wt108 : WTq M108 T A B D n W pl nq sm := wt101.fi h101.1 x108.1
  have d108 : mI M108 (q + 1) 5 = 1 := by rw [r108 5 (by decide), u10]; exact d90
  rw [h108.1.2.1.2.1, d108]
  refine ⟨h108.1.2.1.1, h108.1.1.2.1.1, ⟨by decide, by decide⟩, fun M116 e116 => ?_⟩
  obtain ⟨h116, x116, g116⟩ := tx_ui h108 ⟨by decide, by decide⟩ e116 (Or.inr (Or.inr (Or.inr (Or.inl ⟨rfl, Or.inr (Or.inl rfl)⟩))))
  have b116 : ∀ b, b ≠ q + 1 → mI M116 b = mI M101 b := fun b hb => by
    rw [← b108 b hb]
    funext i
    rw [g116, if_neg (fun u => hb u.1)]
  have r116 : ∀ i, i ≠ 5 → i ≠ 2 → mI M116 (q + 1) i = mI M101 (q + 1) i := fun i hi hj => by rw [g116, if_neg (fun u => hi u.2), r108 i hj]
  have a116 : mI M116 (q + 1) 2 = ((a' + 1 : Nat) : Int) := by rw [g116, if_neg (fun u => absurd u.2 (by first | decide | simp))]; exact a108
  have d116 : mI M116 (q + 1) 5 = 0 := by rw [g116, if_pos ⟨rfl, rfl⟩]; rfl
  have xx : txF M101 q p O P S0 M116 := by
    have u := x108.trans x116
    exact ⟨u.1, u.2.1, u.2.2.1, u.2.2.2.1, u.2.2.2.2.1, u.2.2.2.2.2.1, fun i _ => ⟨by rw [b116 O nO1], by rw [b116 P nP1]⟩⟩
  have f116 := f101.trans xx
  have wt116 : WTq M116 T A B D n W pl nq sm := wt108.fi h108.1 x116.1
  have p116 : mI M116 p 2 = ((e : Nat) : Int) := by rw [b116 p np1]; exact u5
  rw [h116.1.2.1.2.2.2.1]
  have i43 : i32 ((l4 * 16) + (if l6 < 0 then 0 else l6)) := by
    exact i43_ b4 h6 (Nat.le_trans hV (by decide))
  refine ⟨h116.1.1.2.2.2.2.1.1, (s_tx_add (i32s (by omega) (by omega)) i43 h116 p116 (by omega) (by omega)).mono (fun v M119 kk => ?_)⟩
  obtain ⟨v1, v2, v3, v4, v5, v6, v7, v8⟩ := kk
  have e1 := v8 (q + 1) np1.symm nO1.symm nP1.symm
  have f119 := f116.trans (v4.less (show S0 ≤ e by omega))
  have wt119 : WTq M119 T A B D n W pl nq sm := wt116.fi h116.1 v4.1
  rw [v3.1.2.1.2.1]
  refine ⟨v1, v2, v3.1.2.1.1, v3.1.1.2.1.1, (x_tx_accept (x := 30) (a := a' + 1) (i32s (by omega) (by omega)) (by omega) v3 (by rw [e1]; exact a116) an108).mono (fun x125 M124 kk => ?_)⟩
  obtain ⟨i125, o124, -, h124, x124, k124, r124, b124, m124⟩ := kk
  have f124 : txF M0 q p O P S0 M124 := f119.trans ⟨x124.1, x124.2.1, x124.2.2.1, x124.2.2.2.1, x124.2.2.2.2.1, x124.2.2.2.2.2.1, fun i _ => ⟨by rw [b124 O nO1], by rw [b124 P nP1]⟩⟩
  have sc124 : mI M124 (q + 1) 3 = 0 → scI M124 O P V F ns S0 (e + 1) := fun y => by
    rw [r124 3 (by decide), e1, r116 3 (by decide) (by decide)] at y
    have y90 : mI M (q + 1) 3 = 0 := by
      rw [← l90]
      exact Classical.byContradiction (fun u => x101.2.2.1 u y)
    have y6 : 0 ≤ l6 ∧ l6 < V := h6.resolve_left (fun u => hf u y90)
    have s1 : scI M101 O P V F ns S0 s9 := (sc90 y90).cg (fun i hi => x101.2.2.2.2.2.2 i hi)
    refine s1.set (x := (l4 * 16) + (if l6 < 0 then 0 else l6)) u1 u2 u3 u4 (fun i => ?_) (fun i => ?_) ?_
    · rw [b124 O nO1, v6, b116 O nO1]
    · rw [b124 P nP1, v7, b116 P nP1]
    · rw [if_neg (by omega)]
      clear h1 h83 h90 h101 h108 h116 nx sc90 u1 s1
      exact ⟨by omega, by omega, by omega⟩
  have p124 : mI M124 p 2 = ((e + 1 : Nat) : Int) := by rw [b124 p np1]; exact v5
  have d124 : mI M124 (q + 1) 5 = 0 := by rw [r124 5 (by decide), e1]; exact d116
  have c124 : mI M124 (q + 1) 6 = 0 := by rw [r124 6 (by decide), e1, r116 6 (by decide) (by decide), c101]; exact c90
  have wt124 : WTq M124 T A B D n W pl nq sm := wt119.fi v3.1 x124.1
  have F124 : FT M124 (q + 1) (fst9 ft (fst9 fS vr)) := g4.same (by rw [r124 3 (by decide), e1, r116 3 (by decide) (by decide)]) (by rw [r124 4 (by decide), e1, r116 4 (by decide) (by decide)])
  have an1 : a' < n := by omega
  obtain ⟨nx1, nx2⟩ := sn.next hik hNn (show k < n by omega) tn0 hV g2 w37 an1 vr9
  have O124 : ∀ t, mI M124 O t = (if t = e then 43 else mI M101 O t) ∧ mI M124 P t = (if t = e then (l4 * 16) + (if l6 < 0 then 0 else l6) else mI M101 P t) := fun t => by rw [b124 O nO1, b124 P nP1, v6, v7, b116 O nO1, b116 P nP1]; exact ⟨rfl, rfl⟩
  have y124 : mI M124 (q + 1) 3 = 0 → mI M101 (q + 1) 3 = 0 := fun u => by rw [r124 3 (by decide), e1, r116 3 (by decide) (by decide)] at u; exact u
  have s9L : s9 < e := g5.lt
  obtain ⟨ml1, ml2⟩ := sl.next (M' := M124) (Cf := Cf) (s9 := s9) (e9 := e) (a' := a') (fun u => by
      rw [← l90]
      exact Classical.byContradiction (fun v => x101.2.2.1 v (y124 u))) pM p124 (fun t ht => by
      rw [(O124 t).1, (O124 t).2, if_neg (by omega), if_neg (by omega), (x101.2.2.2.2.2.2 t ht).1, (x101.2.2.2.2.2.2 t ht).2]
      exact oo9 t) (show i < Nn by omega) w10 (cpq_at g2 w37 (by omega)) (fun ct hl y => by
      have ft0 := F124.1.symm.trans y
      obtain ⟨-, fz⟩ := fst9_1.mp ft0
      obtain ⟨f0, vz⟩ := fst9_1.mp fz
      obtain ⟨l, seen, j, e', -, -, -, -, fe, -, e3, -, -, e7⟩ := (sn ct hl).2 f0
      have ev := vr9 ct hl e' fe
      rw [ev] at vz
      have fl0 : (fl W (E9 sm nms 0) pl 0 (k + 4) a').1 = 0 := (fst9_1.mp vz).1
      have l60 : 0 ≤ l6 ∧ l6 < V := h6.resolve_left (fun u => by rw [u] at e7; omega)
      refine ⟨lf9 (ct.tx f90.2) hl, g5.cg (fun t _ t2 => by rw [(O124 t).1, (O124 t).2, if_neg (by omega), if_neg (by omega)]; exact ⟨rfl, rfl⟩), by rw [(O124 _).1, if_pos rfl], ?_, g2, by omega, fl0, ?_, ?_⟩
      · rw [(O124 _).2, if_pos rfl, if_neg (by omega), e4, e7]
      · show vix9 sm nms (k + 1) < V
        omega
      · show 0 ≤ pl k ∧ pl k ≤ 16384
        rw [← e4]
        exact b4)
  have le1 : i + 1 ≤ a' + 1 + 1 := by
    clear nx sc90 u1 nx1 nx2
    omega
  refine ⟨i125, o124, ?_⟩
  rw [e73]
  rw [e73] at i73
  rcases k124 with ⟨ex, e30, a124, an124⟩ | ⟨ex, e2⟩
  · have w29 : W (a' + 1) = 29 := (wt119.is an108 (by decide) (by decide)).mp e30
    exact nx M124 x125 _ (a' + 1 + 1) (e + 1) i125 i73 ⟨h124, f124, a124, an124, p124, by omega, by omega, d124, c124, sc124, hL⟩ ⟨wt124, fst9 fS vr, F124, Or.inl ⟨by rw [ex]; decide, le1, rc6.trans (rc60m w29), nx1 w29, n6.sc (by rw [w29]; decide), ml1 w29⟩⟩
  · have w29 : W (a' + 1) ≠ 29 := fun u => m124 ex ((wt119.is an108 (by decide) (by decide)).mpr u)
    exact nx M124 x125 _ (a' + 1) (e + 1) i125 i73 ⟨h124, f124, by rw [e2, e1]; exact a116, an108, p124, by omega, by omega, d124, c124, sc124, hL⟩ ⟨wt124, fst9 fS vr, F124, Or.inr ⟨ex, rc6.trans (rc60 w29), ⟨nx2 w29, n6⟩, ml2 w29⟩⟩
end TXQ
end
section
section
/-! The class's reader of texts, exactly: readSets. -/
section TXR
variable {G : mG} {d z q w T A B D N C n p O P K Ab Be Cm V F c s L cnt a s9 S0 k0 Nn : Nat} {M0 M M' M1 M2 : mM} {ns : Nat → Int} {sf ef : Nat → Nat} {W pl nq : Nat → Int} {sm : Nat → Nat → Prop} {nms : List nm9} {ft fS : Int × Int}
theorem rc59 {zr : List Int} (h : W a = 36) (h4 : slv (59 :: zr) < 40) : Rc W (59 :: zr) a (1 :: 38 :: 23 :: 61 :: 37 :: 75 :: zr) (a + 1) := Rc.one (mst_n (by decide) (by decide) (ys := [1, 38, 23, 61, 37, 75]) (t := 1) (by
  show ex59 (W a) = _
  unfold ex59
  rw [if_pos h]) (Or.inr h4))
theorem rf59 {zr : List Int} (hR : Rc W [50] 0 (59 :: zr) a) (h : W a ≠ 36) : Rf W [50] 0 a := hR.rf (Rf.of (mst_no (by decide) (by decide) (by
  show ex59 (W a) = _
  unfold ex59
  rw [if_neg h])))
theorem rc58 {zr : List Int} (h : W a = 10) : Rc W (58 :: zr) a zr (a + 1) := Rc.one (mst_n (by decide) (by decide) (ys := []) (t := 1) (by
  show ex58 (W a) = _
  unfold ex58
  rw [if_pos h]) (Or.inl (by decide)))
theorem rc58n {zr : List Int} (h : W a ≠ 10) : Rc W (58 :: zr) a (59 :: 60 :: zr) a := Rc.one (mst_n (by decide) (by decide) (ys := [59, 60]) (t := 0) (by
  show ex58 (W a) = _
  unfold ex58
  rw [if_neg h]) (Or.inl (by decide)))
theorem x_rs22 (w10 : W k0 ≠ 10) (hNn : n ≤ Nn) (tn0 : TN M0 (q + 1) A n V F ns c) : ∀ (t i : Nat) (M : mM) (l1 l2 : Int) (a s9 : Nat), n + 1 ≤ i + t → i ≤ n + 1 → i32 l1 → i32 l2 → rsI M0 z q w T A B D N C n p O P K Ab Be Cm V F ns sf ef c cnt L S0 a s9 M → rsJ T A B D n V O P S0 W pl nq sm Nn M0 q p c k0 nms ft (seP W pl sm Nn M0 q p c k0 nms) l1 l2 i a M → h_TR_readSets_22 G (d + 5) q l1 l2 i M (fun x M' => rsQ9 M0 z q w T A B D N C n p O P K Ab Be Cm V F ns sf ef c cnt L S0 x M' ∧ rsV W q ft (seP W pl sm Nn M0 q p c k0 nms) (seE W pl nq sm Nn n V M0 q p O P c k0 S0 nms) x M') := by
  intro t
  induction t with
  | zero =>
    intro i M l1 l2 a s9 ht hi i1 i2 h J
    have h1 := h.1
    have a2 := h.2.2.2.1
    obtain ⟨t0, t1, t2, t3, t4, t5⟩ := h1.1.2.1
    have r0 := h1.1.1.2.2.1.1
    have w1 := h1.1.1.2.2.2.1.1.1
    have w2 := h1.1.1.2.2.2.1.2.1
    have hN : n ≤ 16384 := by have := h1.1.1.2.2.2.1.2.2.1; have := h1.1.1.2.2.2.1.1.2.2.2.2.2.2.1; omega
    obtain ⟨wt, fS, hFT, J⟩ := J
    have J := J.resolve_left (fun u => by
      have := u.2.1
      clear J
      omega)
    refine k_TR_readSets_22 h1.1.1.1 i1 i2 (i32s (by omega) (by omega)) ?_
    rw [t1, r0, w2, t3]
    exact ⟨t0, h1.1.1.2.1.1, w1, fun _ => ⟨h1.1.1.2.2.2.2.1.1, x_rs_end h hFT J.2.1 J.2.2.1 J.2.2.2⟩, fun y => absurd (Or.inl (by omega)) y⟩
  | succ t ih =>
    intro i M l1 l2 a s9 ht hi i1 i2 h J
    have h1 := h.1
    have a1 := h.2.2.1
    have a2 := h.2.2.2.1
    have d1 := h.2.2.2.2.2.2.2.1
    have f1 := h.2.1
    obtain ⟨t0, t1, t2, t3, t4, t5⟩ := h1.1.2.1
    have r0 := h1.1.1.2.2.1.1
    have w1 := h1.1.1.2.2.2.1.1.1
    have w2 := h1.1.1.2.2.2.1.2.1
    have hN : n ≤ 16384 := by have := h1.1.1.2.2.2.1.2.2.1; have := h1.1.1.2.2.2.1.1.2.2.2.2.2.2.1; omega
    obtain ⟨wt, fS, hFT, J⟩ := J
    by_cases l10 : l1 = 0
    · have J := J.resolve_left (fun u => u.1 l10)
      refine k_TR_readSets_22 h1.1.1.1 i1 i2 (i32s (by omega) (by omega)) ?_
      rw [t1, r0, w2, t3]
      exact ⟨t0, h1.1.1.2.1.1, w1, fun _ => ⟨h1.1.1.2.2.2.2.1.1, x_rs_end h hFT J.2.1 J.2.2.1 J.2.2.2⟩, fun y => absurd (Or.inr l10) y⟩
    obtain ⟨-, hik, hR, sk, n4, sl⟩ := J.resolve_right (fun u => l10 u.1)
    clear J
    refine k_TR_readSets_22 h1.1.1.1 i1 i2 (i32s (by omega) (by omega)) ?_
    rw [t1, r0, w2, t3]
    refine ⟨t0, h1.1.1.2.1.1, w1, fun y => absurd y (by omega), fun y => (s_RR_here h1.1.1 a1 a2).mono (fun x26 M25 k => ?_)⟩
    have i1n : i < n + 1 := by omega
    obtain ⟨e25, ex26, x0, x1⟩ := k
    subst e25
    have e26 : x26 = pl a := by rw [ex26]; exact (wt.1 a a2).2.2
    rw [t1, d1]
    refine ⟨i32s (by omega) (by omega), h1.1.1.1, t0, h1.1.1.2.1.1, fun u => absurd u (by first | decide | simp), fun _ => (x_tx_accept (x := 37) (i32s (by omega) (by omega)) (by omega) h1 a1 a2).mono (fun x33 M32 k => ?_)⟩
    obtain ⟨i33, o32, -, h32, x32, k32, r32, b32, m32⟩ := k
    refine ⟨i33, o32, fun u => ?_, fun u => ?_⟩
    · rw [(k32.resolve_left (fun v => by rw [u] at v; exact absurd v.1 (by first | decide | simp))).2]
      exact ⟨⟨f1, Or.inl ⟨rfl, h1, a, a1, a2⟩⟩, a, a1, Or.inl ⟨rfl, rf59 hR (fun v => m32 u ((wt.is a2 (by decide) (by decide)).mpr v))⟩⟩
    obtain ⟨-, e36, a32, an32⟩ := k32.resolve_right (fun v => u v.1)
    clear k32
    have rc1 : Rc W [50] 0 [1, 38, 23, 61, 37, 75, 60, 57, 34, 50] (a + 1) := hR.trans (rc59 ((wt.is a2 (by decide) (by decide)).mp e36) (by decide))
    have wt32 : WTq M32 T A B D n W pl nq sm := wt.fi h1.1 x32.1
    have F32 : FT M32 (q + 1) (fst9 ft fS) := hFT.same (r32 3 (by decide)) (r32 4 (by decide))
    have I32 := h.acc h32 x32 a32 an32 r32 b32
    obtain ⟨⟨np0, np1, -, -⟩, ⟨nO0, nO1, -, -, nOp⟩, nP0, nP1, -, -, nPp⟩ := h1.1.ne
    have sl32 := sl.cg (M' := M32) (fun u => by rw [r32 3 (by decide)] at u; exact u) (by rw [b32 p np1]) (b32 O nO1) (b32 P nP1)
    clear x32 r32 b32
    rw [h32.1.2.1.2.1, a32]
    refine ⟨h32.1.2.1.1, h32.1.1.2.1.1, (x_tx_accept (x := 2) (i32s (by omega) (by omega)) (by omega) h32 a32 an32).mono (fun x40 M39 k => ?_)⟩
    obtain ⟨i40, o39, -, h39, x39, k39, r39, b39, m39⟩ := k
    refine ⟨i40, o39, fun u => ?_, fun u => ?_⟩
    · rw [(k39.resolve_left (fun v => by rw [u] at v; exact absurd v.1 (by first | decide | simp))).2]
      exact ⟨⟨I32.2.1, Or.inl ⟨rfl, h32, a + 1, a32, an32⟩⟩, a + 1, a32, Or.inl ⟨rfl, rf_t rc1 (fun v => m39 u ((wt32.is an32 (by decide) (by decide)).mpr v)) (by decide)⟩⟩
    obtain ⟨-, e39, a39, an39⟩ := k39.resolve_right (fun v => u v.1)
    clear k39
    have W1 : W (a + 1) = 1 := (wt32.is an32 (by decide) (by decide)).mp e39
    have rc2 := rc_t rc1 W1 (by decide)
    have n6 : no34 W k0 (a + 2) := (n4.sc (by rw [(wt.is (y := 36) a2 (by decide) (by decide)).mp e36]; decide)).sc (by rw [W1]; decide)
    have wt39 : WTq M39 T A B D n W pl nq sm := wt32.fi h32.1 x39.1
    have F39 : FT M39 (q + 1) (fst9 ft fS) := F32.same (r39 3 (by decide)) (r39 4 (by decide))
    have I39 := I32.acc h39 x39 a39 an39 r39 b39
    have sl39 := sl32.cg (M' := M39) (fun u => by rw [r39 3 (by decide)] at u; exact u) (by rw [b39 p np1]) (b39 O nO1) (b39 P nP1)
    have A39 : mI M39 A (a + 1) = 2 := by rw [(h32.1.words x39.1).1]; exact e39
    clear x39 r39 b39 e39
    have c39 := I39.2.2.2.2.2.2.2.2.1
    have hV := h39.2.1.1.2
    have nxt : ∀ (M1 : mM) (l1 l2 : Int) (a' s' : Nat), i32 l1 → i32 l2 → rsI M0 z q w T A B D N C n p O P K Ab Be Cm V F ns sf ef c cnt L S0 a' s' M1 → rsJ T A B D n V O P S0 W pl nq sm Nn M0 q p c k0 nms ft (seP W pl sm Nn M0 q p c k0 nms) l1 l2 (i + 1) a' M1 → h_TR_readSets_22 G (d + 5) q l1 l2 ((i : Int) + 1) M1 (fun x M' => rsQ9 M0 z q w T A B D N C n p O P K Ab Be Cm V F ns sf ef c cnt L S0 x M' ∧ rsV W q ft (seP W pl sm Nn M0 q p c k0 nms) (seE W pl nq sm Nn n V M0 q p O P c k0 S0 nms) x M') := fun M1 l1 l2 a' s' j1 j2 hh jj => by
      rw [show ((i : Int) + 1) = ((i + 1 : Nat) : Int) by omega]
      exact ih (i + 1) M1 l1 l2 a' s' (by omega) (by omega) j1 j2 hh jj
    obtain ⟨⟨ww1, ⟨p0, p3, p4, p5⟩, -, ⟨kA, kB, kD⟩, ⟨cA, cB, cD⟩, w6, w7, w8, -⟩, -⟩ := id h39.1.1.2.2.2.1
    have nN := h39.1.1.2.2.2.1.2.2.1
    have rr0 := h39.1.1.2.2.1.1
    have eB : mI M39 B (a + 1) = pl (a + 1) := (wt39.1 (a + 1) an32).2.2
    rw [h39.1.2.1.2.1]
    refine ⟨h39.1.2.1.1, h39.1.1.2.1.1, (x_RR_varOf h39.1.1 h39.2.1.2.2.1.nk an39 A39 c39).mono (fun x47 M46 k => ?_)⟩
    obtain ⟨e46, hx, hx2⟩ := k
    subst e46
    have I90 := I39.2.1
    obtain ⟨s1, s2, s3⟩ := sk.nm hik hNn an39 (fun ct => ct.tx I90.2) (I90.2.2.2.1 8 (by decide) (by decide)) wt39 h39.2.1.2.2.1 hV W1 hx2
    clear hx2
    have i47 : i32 x47 := ⟨by omega, by omega⟩
    rw [h39.1.2.1.2.1, rr0, p4, cB, Int.toNat_natCast, eB]
    have ipl : i32 (pl (a + 1)) := by rw [← eB]; exact (o39 _ _).1
    refine ⟨i47, o39, fun v => ⟨h39.1.2.1.1, h39.1.1.2.1.1, ww1, kB, by omega, ?_⟩, fun v => ⟨fun v2 => x_rs168 i2 (i32s (by omega) (by omega)) ⟨x0, x1⟩ hx e26 w10 sl39 ⟨an39, A39⟩ I39 (fun e => absurd e v) wt39 F39 W1 (s2 v v2) rc2 hik hNn tn0 n6 nxt, fun v2 => ⟨h39.1.2.1.1, h39.1.1.2.1.1, ww1, kB, by omega, ?_⟩⟩⟩
    · refine (x_tx_note (x := 2) (i32s (by omega) (by omega)) (by omega) ipl h39).mono (fun M57 k => ?_)
      obtain ⟨o57, h57, x57, u3, u4, u5, u6⟩ := k
      have F57 := u6 _ F39
      rw [fst9_as] at F57
      exact ⟨o57, x_rs168 i2 (i32s (by omega) (by omega)) ⟨x0, x1⟩ hx e26 w10 (sl39.cg (fun u => absurd u u3) (by rw [u5 p np1]) (u5 O nO1) (u5 P nP1)) ⟨an39, by rw [(h39.1.words x57.1).1]; exact A39⟩ (I39.note h57 x57 u4 u5) (fun _ => u3) (wt39.fi h39.1 x57.1) F57 W1 (s1 v) rc2 hik hNn tn0 n6 nxt⟩
    · refine (x_tx_note (x := 4) (i32s (by omega) (by omega)) (by omega) ipl h39).mono (fun M57 k => ?_)
      obtain ⟨o57, h57, x57, u3, u4, u5, u6⟩ := k
      have F57 := u6 _ F39
      rw [fst9_as] at F57
      exact ⟨o57, x_rs168 i2 (i32s (by omega) (by omega)) ⟨x0, x1⟩ hx e26 w10 (sl39.cg (fun u => absurd u u3) (by rw [u5 p np1]) (u5 O nO1) (u5 P nP1)) ⟨an39, by rw [(h39.1.words x57.1).1]; exact A39⟩ (I39.note h57 x57 u4 u5) (fun _ => u3) (wt39.fi h39.1 x57.1) F57 W1 (s3 v v2) rc2 hik hNn tn0 n6 nxt⟩
/-- the sets of a branch, from the word k0 on -/
def rsX (W pl : Nat → Int) (sm : Nat → Nat → Prop) (Nn : Nat) (Mc : mM) (q p c k0 : Nat) (nms : List nm9) (fS : Int × Int) (a : Nat) : Prop := (W k0 = 10 ∧ fS = (0, 0) ∧ a = k0 + 1) ∨ (W k0 ≠ 10 ∧ seP W pl sm Nn Mc q p c k0 nms fS a)
theorem rsV.mono {X Y : Int × Int → Nat → Prop} {Y9 : mM → Prop} {x : Int} (h : rsV W q ft X Y9 x M) (hX : ∀ f a, X f a → Y f a) : rsV W q ft Y Y9 x M := by
  obtain ⟨a, h1, h2⟩ := h
  exact ⟨a, h1, h2.imp (fun u => u) (fun ⟨u1, u2, f, u3, u4, u5⟩ => ⟨u1, u2, f, u3, hX f a u4, u5⟩)⟩
theorem x_TR_readSets (hs9 : s9 = S0) (hNn : n ≤ Nn) (tn0 : TN M0 (q + 1) A n V F ns c) (h : rsI M0 z q w T A B D N C n p O P K Ab Be Cm V F ns sf ef c cnt L S0 a s9 M) (wt : WTq M T A B D n W pl nq sm) (hFT : FT M (q + 1) ft) (hR : Rc W [50] 0 [58, 57, 34, 50] a) : Ci G y_TR_readSets (d + 6) [vr q] M (fun x M' => rsQ9 M0 z q w T A B D N C n p O P K Ab Be Cm V F ns sf ef c cnt L S0 x M' ∧ rsV W q ft (rsX W pl sm Nn M0 q p c a nms) (seE W pl nq sm Nn n V M0 q p O P c a S0 nms) x M') := by
  have h1 := h.1
  have a1 := h.2.2.1
  have a2 := h.2.2.2.1
  obtain ⟨t0, t1, t2, t3, t4, t5⟩ := h1.1.2.1
  have r0 := h1.1.1.2.2.1.1
  have w1 := h1.1.1.2.2.2.1.1.1
  have w2 := h1.1.1.2.2.2.1.2.1
  refine k_TR_readSets h1.1.1.1 ?_
  rw [t1]
  refine ⟨t0, h1.1.1.2.1.1, (x_tx_accept (x := 11) (i32s (by omega) (by omega)) (by omega) h1 a1 a2).mono (fun x4 M3 k => ?_)⟩
  obtain ⟨i4, o3, -, h3, x3, k3, r3, b3, m3⟩ := k
  refine ⟨i4, o3, fun v7 e7 => ?_⟩
  have i7 : i32 v7 := by rw [e7]; split <;> exact i32s (by omega) (by omega)
  rcases k3 with ⟨ex, e10, a3, an3⟩ | ⟨ex, e3⟩
  · obtain ⟨⟨np0, np1, -, -⟩, -, -⟩ := h1.1.ne
    have w10 : W a = 10 := (wt.is a2 (by decide) (by decide)).mp e10
    have I3 := h.acc h3 x3 a3 an3 r3 b3
    rw [if_neg (by omega)] at e7
    obtain ⟨t0', t1', t2', t3', -⟩ := h3.1.2.1
    refine k_TR_readSets_22 o3 i7 (i32s (by omega) (by omega)) (i32s (by omega) (by omega)) ?_
    rw [t1', h3.1.1.2.2.1.1, h3.1.1.2.2.2.1.2.1, t3']
    have F3 : FT M3 (q + 1) (fst9 ft (0, 0)) := (hFT.same (r3 3 (by decide)) (r3 4 (by decide))).none
    exact ⟨t0', h3.1.1.2.1.1, h3.1.1.2.2.2.1.1.1, fun _ => ⟨h3.1.1.2.2.2.2.1.1, x_rs_end (X := rsX W pl sm Nn M0 q p c a nms) I3 F3 (hR.trans (rc58 w10)) (Or.inl ⟨w10, rfl, rfl⟩) (fun _ _ _ => ⟨s9, by rw [b3 p np1]; exact h.2.2.2.2.1, by unfold sll; rw [if_pos w10]; exact hs9.symm, fun q' hq => by unfold sll at hq; rw [if_pos w10] at hq; exact absurd hq (by simp)⟩)⟩, fun y => absurd (Or.inr e7) y⟩
  · have w10 : W a ≠ 10 := fun u => m3 ex ((wt.is a2 (by decide) (by decide)).mpr u)
    rw [if_pos ex] at e7
    rw [e3]
    have F0 : FT M (q + 1) (fst9 ft (0, 0)) := hFT.none
    have key := x_rs22 (G := G) (d := d) (k0 := a) (nms := nms) (ft := ft) w10 hNn tn0 (n + 1) 0 M v7 0 a s9 (by omega) (by omega) i7 (i32s (by omega) (by omega)) h ⟨wt, (0, 0), F0, Or.inl ⟨by rw [e7]; decide, Nat.zero_le _, hR.trans (rc58n w10), fun ct hl => ⟨fun u => absurd rfl u, fun _ => ⟨0, [], rfl, by decide, snq.nil, rfl⟩⟩, ⟨Nat.le_refl _, fun j j1 j2 => absurd j2 (by omega)⟩, fun _ _ _ => ⟨[], s9, h.2.2.2.2.1, rfl, hs9.symm, fun q' hq => absurd hq (by simp)⟩⟩⟩
    exact mWm.mono key (fun r M' u => by
      obtain ⟨y, u1, u2, u3⟩ := u
      exact ⟨y, u1, u2, u3.mono (fun f b hb => Or.inr ⟨w10, hb⟩)⟩)
end TXR
end
section
/-! The class's reader of texts, exactly: a chance. -/
section TXS
variable {G : mG} {d z q w T A B D N C n p O P K Ab Be Cm V F c s L cnt a k e ix nbr : Nat} {M0 M M' M1 M2 : mM} {ns : Nat → Int} {sf ef : Nat → Nat} {W pl nq : Nat → Int} {sm : Nat → Nat → Prop} {nms : List nm9} {ft : Int × Int}
/-- names and counts stay -/
def cmK (q p : Nat) (M M' : mM) : Prop := mI M' (q + 1) 19 = mI M (q + 1) 19 ∧ (∀ i, 6 ≤ i → i ≤ 9 → mI M' (q + 1 + i) = mI M (q + 1 + i)) ∧ (∀ i, i ≠ 2 → mI M' p i = mI M p i) ∧ mI M' (p + 6) = mI M (p + 6) ∧ mI M' (p + 7) = mI M (p + 7)
theorem cmK.refl : cmK q p M M := ⟨rfl, fun _ _ _ => rfl, fun _ _ => rfl, rfl, rfl⟩
theorem cmK.trans (h : cmK q p M M1) (k : cmK q p M1 M2) : cmK q p M M2 := ⟨k.1.trans h.1, fun i i6 i9 => (k.2.1 i i6 i9).trans (h.2.1 i i6 i9), fun i i2 => (k.2.2.1 i i2).trans (h.2.2.1 i i2), k.2.2.2.1.trans h.2.2.2.1, k.2.2.2.2.trans h.2.2.2.2⟩
theorem cmK.tx (f : txE M q p O P s M') : cmK q p M M' := ⟨f.1 19 (by decide) (by decide) (by decide) (by decide) (by decide) (by decide) (by decide) (by decide), f.2.2.1, f.2.2.2.1, f.2.2.2.2.1 6 (by decide) (by decide), f.2.2.2.2.1 7 (by decide) (by decide)⟩
theorem CT.cm (ct : CT M (q + 1) p nms) (k : cmK q p M M') : CT M' (q + 1) p nms := ct.cg k.1 (k.2.1 6 (by decide) (by decide)) (k.2.1 7 (by decide) (by decide)) (k.2.1 8 (by decide) (by decide)) (k.2.1 9 (by decide) (by decide)) k.2.2.2.1 k.2.2.2.2
theorem hz33 : ∀ j, lwx (W j) = 3 → Rf W [33, 58, 57, 34, 50] j j := fun j hj => Rf.of (mst_tn (by decide) (fun u => by
  rw [← u] at hj
  exact absurd hj (by first | decide | simp)))
/-- a chance has been read, exactly -/
def chV (W pl nq : Nat → Int) (sm : Nat → Nat → Prop) (q p O P n c L ix a : Nat) (nms : List nm9) (ft : Int × Int) (M : mM) (x : Int) (M' : mM) : Prop := ∃ a' : Nat, mI M' (q + 1) 2 = a' ∧ ((x = 0 ∧ Rf W [50] 0 a') ∨ (x = 1 ∧ ∃ (j : Nat) (E : Nat → Int), a' = j + 1 ∧ W j = 33 ∧ Eo W 6 a j ∧ Rc W [50] 0 [58, 57, 34, 50] (j + 1) ∧ FT M' (q + 1) (fst9 ft (vrf W E pl 0 a j)) ∧ (CT M (q + 1) p nms → nms.length = c → E = E9 sm nms 0) ∧ cmK q p M M' ∧ ∃ Cf : Nat → Int × Int, chD W pl nq sm Cf q p O P n c L ix a j nms M M'))
theorem x_TR_readChance (h : TX M z q w T A B D N C n p O P K Ab Be Cm V F ns sf ef c cnt L) (cy : CY M q p O P V F ns sf ef L cnt ix nbr) (n8 : mI M (q + 1) 3 = 0 → nbr < 8) (ha : mI M (q + 1) 2 = ((a : Nat) : Int)) (han : a ≤ n) (hs : mI M p 2 = ((L : Nat) : Int)) (hsa : L ≤ a) (hd : mI M (q + 1) 5 = 0) (h6 : mI M (q + 1) 6 = 0) (hix : ix ≤ 59) (wt : WTq M T A B D n W pl nq sm) (hF : FT M (q + 1) ft) (hR : Rc W [50] 0 [63, 33, 58, 57, 34, 50] a) : Ci G y_TR_readChance (d + 5) [vr q, vi ix] M (fun x M' => chQ9 M z q w T A B D N C n p O P K Ab Be Cm V F ns sf ef c cnt L ix nbr x M' ∧ chV W pl nq sm q p O P n c L ix a nms ft M x M') := by
  obtain ⟨⟨np0, np1, -, -⟩, ⟨nO0, nO1, -, -, nOp⟩, nP0, nP1, -, -, nPp⟩ := h.1.ne
  obtain ⟨q01, q10, q210, q211, -⟩ := q_ne q
  have hN : n ≤ 16384 := by have := h.1.1.2.2.2.1.2.2.1; have := h.1.1.2.2.2.1.1.2.2.2.2.2.2.1; omega
  obtain ⟨t0, t1, t2, t3, t4, t5⟩ := h.1.2.1
  refine k_TR_readChance h.1.1.1 (i32s (by omega) (by omega)) ?_
  rw [t1]
  refine ⟨t0, h.1.1.2.1.1, (s_RR_here h.1.1 ha han).mono (fun x4 M3 k => ?_)⟩
  obtain ⟨e3, ex4, x0, x1⟩ := k
  subst e3
  have e4 : x4 = pl a := by rw [ex4]; exact (wt.1 a han).2.2
  have i4 : i32 x4 := i32s (by omega) (by omega)
  rw [t1, t3, hs]
  have hw3 : ∀ i, i < c → ∃ v : Nat, mI M3 (q + 1 + 6) i = v ∧ v < n ∧ mI M3 A v = 2 := fun i hi => (h.2.1.2.2.1.2.2 i hi).1
  obtain ⟨E, Cf, uq, big, ec⟩ := uq_ex (p := p) (nms := nms) (c := c) wt hw3 h6
  have lf9 : CT M3 (q + 1) p nms → nms.length = c → LfC W nq sm n nms Cf := fun ct hl => ECq.lf (c := c) (E := E) (M := M3) (r := q + 1) (p := p) ⟨big, ec⟩ ct hl (fun i hi => (h.2.1.2.2.1.2.2 i hi).2.2)
  have ec : CT M3 (q + 1) p nms → nms.length = c → E = E9 sm nms 0 := fun ct hl => (ec ct hl).1
  refine ⟨i4, h.1.1.1, t0, h.1.1.2.2.2.2.1.1, h.1.1.2.1.1, (x_tx_rule (u := (W, E, pl, Cf, (a, ft), ([33, 58, 57, 34, 50], 5), ([50], 0))) (d0 := 0) (i32s (by omega) (by omega)) (i32s (by omega) (by omega)) h ha han hs (Nat.le_refl _) hsa hd (by omega) h.2.1.2.2.1.nk (uq _) rfl hF (by rw [hd]; rfl) ⟨fun _ => rfl, fun y => absurd rfl y⟩ hz33 hR).mono (fun x10 M9 k => ?_)⟩
  obtain ⟨i10, o9, ⟨h9, x9, ⟨c9, -⟩, k9⟩, a9, ea9, rv⟩ := k
  refine ⟨i10, o9, fun y => ?_, fun y => ?_⟩
  · obtain ⟨-, u⟩ := k9.resolve_right (fun u => by rw [y] at u; exact absurd u.1 (by first | decide | simp))
    refine ⟨⟨x9.1, Or.inl ⟨rfl, h9, u⟩⟩, a9, ea9, Or.inl ⟨rfl, ?_⟩⟩
    rcases rv with ⟨-, rv⟩ | ⟨rv, -⟩
    · exact rv
    · exact absurd y (by rw [rv]; decide)
  obtain ⟨-, e, H, a', u1, u2, u3, u4, u5, u6, u7, u8, u9, u10⟩ := k9.resolve_left (fun u => y u.1)
  clear k9
  have ea' : a' = a9 := by
    rw [u6] at ea9
    clear rv u1
    omega
  obtain ⟨L9, q1, q2, q3, q4, q5, q6, q7⟩ : rlD (W, E, pl, Cf, (a, ft), ([33, 58, 57, 34, 50], 5), ([50], 0)) (q + 1) p O P L a9 _ M9 := (rv.resolve_left (fun u => y u.1)).2
  clear rv uq
  have q5 : Cd W Cf pl (mI M9 O) (mI M9 P) 0 0 0 a a9 L L9 := q5
  have eL9 : e = L9 := by rw [u5] at q1; omega
  subst eL9
  subst ea'
  have q2 : Eo W 6 a a' := q2
  have q7 : Rc W [50] 0 [33, 58, 57, 34, 50] a' := q7
  have q4 : FT M9 (q + 1) (fst9 ft (vrf W E pl 0 a a')) := irv_ft (x := 0) (l2 := 1) (tr := 0) q4 (by simp)
  have wt9 : WTq M9 T A B D n W pl nq sm := wt.fi h.1 x9.1
  rw [h9.1.2.1.2.2.2.1]
  refine ⟨h9.1.2.1.1, h9.1.1.2.2.2.2.1.1, (s_tx_add (i32s (by omega) (by omega)) (i32s (by omega) (by omega)) h9 u5 (by omega) (by omega)).mono (fun x17 M16 k => ?_)⟩
  obtain ⟨v1, v2, v3, v4, v5, v6, v7, v8⟩ := k
  have e1 := v8 (q + 1) np1.symm nO1.symm nP1.symm
  have f16 : txF M3 q p O P L M16 := x9.trans (v4.less (by omega))
  have cy16 := cy.tx f16.2
  have wt16 : WTq M16 T A B D n W pl nq sm := wt9.fi h9.1 v4.1
  have F16 : FT M16 (q + 1) (fst9 ft (vrf W E pl 0 a a')) := q4.same (by rw [e1]) (by rw [e1])
  have K16 : cmK q p M3 M16 := cmK.tx f16.2
  have cd : Cod M16 O P V F ns L e H 1 := by
    refine ⟨fun pc h0 h2 => ?_, u2, u3, u4, by rw [v6, if_pos rfl], by omega⟩
    rw [v6, v7, if_neg (by omega), if_neg (by omega)]
    exact u1 pc h0 h2
  have a16 : mI M16 (q + 1) 2 = ((a' : Nat) : Int) := by rw [e1]; exact u6
  have d16 : mI M16 (q + 1) 5 = 0 := by rw [e1, u10]; exact hd
  have c16 : mI M16 (q + 1) 6 = 0 := by rw [e1, c9]; exact h6
  obtain ⟨w0, w1, w2, w3, w4, w5⟩ := v3.1.2.1
  obtain ⟨k6, ⟨-, -, -, -, -, -, -, -, -, p16, p17, p18, p19⟩, ⟨-, -, -, -, -, -, -, -, -, kp12, kp13, kp14, kp15⟩, ⟨-, -, -, -, -, -, -, -, -, np12, np13, np14, np15⟩⟩ := v3.tab
  have q516 : Cd W Cf pl (mI M16 O) (mI M16 P) 0 0 0 a a' L e := q5.cg (fun t _ t2 => ⟨by rw [v6, if_neg (by omega)], by rw [v7, if_neg (by omega)]⟩)
  have o16 : mI M16 O e = 0 := by rw [v6, if_pos rfl]
  clear u1 u2 u3 u5 u6 u10 c9 h9 x9 v4 v6 v7 v8 q5
  rw [w1, w3, p16, p17, np12, np13]
  refine ⟨v1, v2, w0, v3.1.1.2.1.1, fun y0 => ?_, fun y0 => ?_⟩
  · obtain ⟨g1, g2, u, v, g3, g4, g5, g6, g7, -⟩ := cy16 y0
    have n8' : nbr < 8 := n8 (by
      have := f16.2.2.1
      exact Classical.byContradiction (fun t => this t y0))
    obtain ⟨u', g9, -, g10⟩ := g7.2.2.2.2.2.1
    have vb : v < 480 := by
      rw [g3] at g9
      omega
    have gv : mI M16 (p + 12) (Int.toNat ((ix : Int) + 1)) = ((v : Nat) : Int) := by
      rw [show Int.toNat ((ix : Int) + 1) = cnt + 1 by omega]
      exact g4
    rw [gv, Int.toNat_natCast]
    refine ⟨k6, kp12, by omega, kp13, by omega, fun M37 e37 => ?_⟩
    have f37 : FI (fun b => b = p + 13) M16 M37 := by rw [e37]; exact FI.ui rfl
    rw [f37.1, f37.2.1, f37.2.2.1, w3, p18, np14]
    refine ⟨k6, kp14, by omega, fun M42 e42 => ?_⟩
    have f42 : FI (fun b => b = p + 14) M37 M42 := by rw [e42]; exact FI.ui rfl
    have p42 : mI M42 p 2 = ((e + 1 : Nat) : Int) := by rw [f42.2.2.2.2.2.2 p (by omega), f37.2.2.2.2.2.2 p (by omega)]; exact v5
    rw [f42.1, f42.2.1, f42.2.2.1, f37.1, f37.2.1, f37.2.2.1, w3, p19, np15, p42]
    refine ⟨k6, kp15, by omega, fun M47 e47 => ?_⟩
    have f47 : FI (fun b => b = p + 15) M42 M47 := by rw [e47]; exact FI.ui rfl
    have o47 : mOk M47 := by rw [e47]; exact mOk_UI (by rw [e42]; exact mOk_UI (by rw [e37]; exact mOk_UI v2 i4) ⟨by omega, by omega⟩) ⟨by omega, by omega⟩
    have ff : FI (fun b => b = p + 13 ∨ b = p + 14 ∨ b = p + 15) M16 M47 := ((f37.mono (fun _ y => Or.inl y)).trans (f42.mono (fun _ y => Or.inr (Or.inl y)))).trans (f47.mono (fun _ y => Or.inr (Or.inr y)))
    have e13 : ∀ i, mI M47 (p + 13) i = if i = v then pl a else mI M16 (p + 13) i := fun i => by
      rw [f47.2.2.2.2.2.2 _ (by omega), f42.2.2.2.2.2.2 _ (by omega), mI_ui _ i e37]
      by_cases yv : i = v
      · rw [if_pos ⟨rfl, yv⟩, if_pos yv, e4]
      · rw [if_neg (fun t => yv t.2), if_neg yv]
    have e14 : ∀ i, mI M47 (p + 14) i = if i = v then ((L : Nat) : Int) else mI M16 (p + 14) i := fun i => by
      rw [f47.2.2.2.2.2.2 _ (by omega), mI_ui _ i e42]
      by_cases yv : i = v
      · rw [if_pos ⟨rfl, yv⟩, if_pos yv]
      · rw [if_neg (fun t => yv t.2), if_neg yv, f37.2.2.2.2.2.2 _ (by omega)]
    have e15 : ∀ i, mI M47 (p + 15) i = if i = v then ((e + 1 : Nat) : Int) else mI M16 (p + 15) i := fun i => by
      rw [mI_ui _ i e47]
      by_cases yv : i = v
      · rw [if_pos ⟨rfl, yv⟩, if_pos yv]
      · rw [if_neg (fun t => yv t.2), if_neg yv, f42.2.2.2.2.2.2 _ (by omega), f37.2.2.2.2.2.2 _ (by omega)]
    have apO : (q + 1 ≠ p + 13 ∧ q + 1 ≠ p + 14 ∧ q + 1 ≠ p + 15) ∧ (O ≠ p + 13 ∧ O ≠ p + 14 ∧ O ≠ p + 15) ∧ (P ≠ p + 13 ∧ P ≠ p + 14 ∧ P ≠ p + 15) ∧ p + 12 ≠ q + 1 := by
      have ap := v3.1.apart
      have qp := v3.1.2.2.2.2.2.1.2.1
      clear v3 cy16 cy h cd g7 e14 e15
      exact ⟨⟨u7d qp (by omega) (by omega) (by decide), u7d qp (by omega) (by omega) (by decide), u7d qp (by omega) (by omega) (by decide)⟩, ⟨u7b ap.2.2.2.1 (by decide) (by decide) (by decide), u7b ap.2.2.2.1 (by decide) (by decide) (by decide), u7b ap.2.2.2.1 (by decide) (by decide) (by decide)⟩, ⟨u7b ap.2.2.2.2.1 (by decide) (by decide) (by decide), u7b ap.2.2.2.2.1 (by decide) (by decide) (by decide), u7b ap.2.2.2.2.1 (by decide) (by decide) (by decide)⟩, fun e => u7d qp (x := q + 1) (by omega) (by omega) (by decide) e.symm⟩
    have apQ : ∀ i, i ≤ 9 → q + 1 + i ≠ p + 13 ∧ q + 1 + i ≠ p + 14 ∧ q + 1 + i ≠ p + 15 := fun i i9 => by
      have qp := v3.1.2.2.2.2.2.1.2.1
      clear v3 cy16 cy h cd g7 e14 e15
      omega
    obtain ⟨h47, cy47, fx47, nb⟩ := tx_br (x := ((e + 1 : Nat) : Int)) v3 cy16 y0 g4 o47 ff e14 e15
    clear f37 f42 f47 ff e37 e42 e47 p42 cy16
    have r47 := nb (q + 1) apO.1.1 apO.1.2.1 apO.1.2.2
    have nO47 := nb O apO.2.1.1 apO.2.1.2.1 apO.2.1.2.2
    have nP47 := nb P apO.2.2.1.1 apO.2.2.1.2.1 apO.2.2.1.2.2
    have p47 := nb p (by first | (have h1 := qp; omega) | omega) (by first | (have h1 := qp; omega) | omega) (by first | (have h1 := qp; omega) | omega)
    have t12 := nb (p + 12) (by omega) (by omega) (by omega)
    have wt47 : WTq M47 T A B D n W pl nq sm := wt16.fi v3.1 fx47
    have F47 : FT M47 (q + 1) (fst9 ft (vrf W E pl 0 a a')) := F16.same (by rw [r47]) (by rw [r47])
    have K47 : cmK q p M3 M47 := K16.trans ⟨by rw [r47], fun i i6 i9 => nb _ (apQ i i9).1 (apQ i i9).2.1 (apQ i i9).2.2, fun i _ => by rw [p47], nb _ (by omega) (by omega) (by omega), nb _ (by omega) (by omega) (by omega)⟩
    rw [h47.1.2.1.2.1]
    refine ⟨h47.1.1.2.1.1, (x_tx_accept (x := 34) (i32s (by omega) (by omega)) (by omega) h47 (by rw [r47]; exact a16) u8).mono (fun x51 M50 k => ?_)⟩
    obtain ⟨i51, o50, hx51, h50, x50, k50, r50, b50, m50⟩ := k
    refine ⟨i51, o50, hx51, ?_⟩
    rcases k50 with ⟨e51, e33, a50, an50⟩ | ⟨e51, e2⟩
    · have w33 : W a' = 33 := (wt47.is u8 (by decide) (by decide)).mp e33
      have pq1 : ∀ i, i ≤ 15 → p + i ≠ q + 1 := fun i hi => by
        have qp := v3.1.2.2.2.2.2.1.2.1
        omega
      have t16 := f16.2.2.2.2.2.1
      have chd : chD W pl nq sm Cf q p O P n c L ix a a' nms M3 M50 := by
        refine ⟨fun _ => ⟨fun i i3 i12 => by rw [b50 _ (pq1 i (by omega)), nb _ (by omega) (by omega) (by omega), t16 i i3 (by omega)], by rw [b50 p np1, p47, f16.2.2.2.2.1 11 (by decide)], v, e, ?_, fun t => ?_, by rw [b50 p np1, p47]; exact v5, by rw [b50 O nO1, nO47]; exact o16, q516.cg (fun t _ _ => ⟨by rw [b50 O nO1, nO47], by rw [b50 P nP1, nP47]⟩), fun t ht => ?_⟩, lf9⟩
        · rw [g1, ← t16 12 (by omega) (by omega)]; exact g4
        · rw [b50 _ (pq1 13 (by omega)), b50 _ (pq1 14 (by omega)), b50 _ (pq1 15 (by omega)), e13, e14, e15, t16 13 (by omega) (by omega), t16 14 (by omega) (by omega), t16 15 (by omega) (by omega)]
          exact ⟨rfl, rfl, rfl⟩
        · rw [b50 O nO1, nO47, b50 P nP1, nP47]
          exact f16.2.2.2.2.2.2 t ht
      refine ⟨?_, a' + 1, a50, Or.inr ⟨e51, a', E, rfl, w33, q2, rc_t q7 w33 (by decide), F47.same (r50 3 (by decide)) (r50 4 (by decide)), ec, K47.trans (cmK.tx x50.2), Cf, chd⟩⟩
      refine ⟨(f16.1.trans fx47).trans x50.1, Or.inr ⟨e51, h50, fun t => x50.2.2.1 (by rw [r47]; exact f16.2.2.1 t), a' + 1, e, a50, an50, by rw [b50 p np1, p47]; exact v5, by omega, by omega, by rw [r50 5 (by decide), r47]; exact d16, by rw [r50 6 (by decide), r47]; exact c16, cy47.tx x50.2, fun _ => ⟨v, H, by rw [b50 _ apO.2.2.2, t12]; exact g4, by rw [b50 _ apO.1.2.1.symm, e14, if_pos rfl], by rw [b50 _ apO.1.2.2.symm, e15, if_pos rfl], cd.cg (fun i _ => by rw [b50 O nO1, nO47]) (fun i _ => by rw [b50 P nP1, nP47])⟩⟩⟩
    · rw [e2]
      exact ⟨⟨f16.1.trans fx47, Or.inl ⟨e51, h47, a', by rw [r47]; exact a16, u8⟩⟩, a', by rw [r47]; exact a16, Or.inl ⟨e51, rf_t q7 (fun u => m50 e51 ((wt47.is u8 (by decide) (by decide)).mpr u)) (by decide)⟩⟩
  · refine (x_tx_accept (x := 34) (i32s (by omega) (by omega)) (by omega) v3 a16 u8).mono (fun x51 M50 k => ?_)
    obtain ⟨i51, o50, hx51, h50, x50, k50, r50, b50, m50⟩ := k
    refine ⟨i51, o50, hx51, ?_⟩
    rcases k50 with ⟨e51, e33, a50, an50⟩ | ⟨e51, e2⟩
    · have w33 : W a' = 33 := (wt16.is u8 (by decide) (by decide)).mp e33
      refine ⟨?_, a' + 1, a50, Or.inr ⟨e51, a', E, rfl, w33, q2, rc_t q7 w33 (by decide), F16.same (r50 3 (by decide)) (r50 4 (by decide)), ec, K16.trans (cmK.tx x50.2), Cf, fun t => absurd t (x50.2.2.1 y0), lf9⟩⟩
      exact ⟨f16.1.trans x50.1, Or.inr ⟨e51, h50, fun t => x50.2.2.1 (f16.2.2.1 t), a' + 1, e, a50, an50, by rw [b50 p np1]; exact v5, by omega, by omega, by rw [r50 5 (by decide)]; exact d16, by rw [r50 6 (by decide)]; exact c16, cy16.tx x50.2, fun t => absurd t (x50.2.2.1 y0)⟩⟩
    · rw [e2]
      exact ⟨⟨f16.1, Or.inl ⟨e51, v3, a', a16, u8⟩⟩, a', a16, Or.inl ⟨e51, rf_t q7 (fun u => m50 e51 ((wt16.is u8 (by decide) (by decide)).mpr u)) (by decide)⟩⟩
end TXS
end
end
section
/-! The class's reader of texts: a command that is being read keeps the game. -/
/-- a rule's orders, read in this item -/
def RwC (M : mM) (O P L0 L : Nat) (W pl nq : Nat → Int) (sm : Nat → Nat → Prop) (n : Nat) (nms : List nm9) (i j s : Nat) : Prop := ∃ (Cf : Nat → Int × Int) (e : Nat), LfC W nq sm n nms Cf ∧ Eo W 6 i j ∧ j ≤ n ∧ (fl W (E9 sm nms 0) pl 0 i j).1 = 0 ∧ L0 ≤ s ∧ Cd W Cf pl (mI M O) (mI M P) 0 0 0 i j s e ∧ e < L ∧ mI M O e = 0
/-- the orders of sets, read in this item -/
def SwC (M : mM) (O P L0 L V : Nat) (W pl nq : Nat → Int) (sm : Nat → Nat → Prop) (n : Nat) (nms : List nm9) (l : List (Nat × Nat × Nat × Nat)) (s : Nat) : Prop := ∃ e : Nat, (∀ q', q' ∈ l → sOk W pl sm n V nms q') ∧ L0 ≤ s ∧ Scw (LfC W nq sm n nms) W pl (mI M O) (mI M P) l s e ∧ e < L ∧ mI M O e = 0
/-- what stays while command number cnt is read; u branches stand before it -/
def cmF (p O P L0 cnt u : Nat) (Mc M : mM) : Prop := (∀ i, 3 ≤ i → i ≤ 8 → mI M (p + i) = mI Mc (p + i)) ∧ (∀ j, j < cnt → mI M (p + 9) j = mI Mc (p + 9) j ∧ mI M (p + 10) j = mI Mc (p + 10) j ∧ mI M (p + 11) j = mI Mc (p + 11) j) ∧ (∀ j, j ≤ cnt → mI M (p + 12) j = mI Mc (p + 12) j) ∧ (∀ t, t < u → mI M (p + 13) t = mI Mc (p + 13) t ∧ mI M (p + 14) t = mI Mc (p + 14) t ∧ mI M (p + 15) t = mI Mc (p + 15) t) ∧ cdE O P L0 Mc M ∧ mI M p 11 = mI Mc p 11
/-- branches in the program from u on -/
def BrC (M : mM) (p O P L0 L V : Nat) (W pl nq : Nat → Int) (sm : Nat → Nat → Prop) (n : Nat) (nms : List nm9) (u : Nat) (bl : List br9) : Prop := ∀ (t : Nat) (x : br9), bl[t]? = some x → mI M (p + 13) (u + t) = x.1 ∧ (∃ s : Nat, mI M (p + 14) (u + t) = ((s : Nat) : Int) ∧ RwC M O P L0 L W pl nq sm n nms x.2.1.1 x.2.1.2 s) ∧ ∃ s : Nat, mI M (p + 15) (u + t) = ((s : Nat) : Int) ∧ SwC M O P L0 L V W pl nq sm n nms x.2.2 s
/-- command number cnt, at the word k, its arrow at ar: b branches have been read, the next begins at i -/
def cmR9 (W pl nq : Nat → Int) (sm : Nat → Nat → Prop) (Nn n V q p O P L0 c cnt k ar : Nat) (nms : List nm9) (Mc : mM) (i b : Nat) (M : mM) : Prop := CT Mc (q + 1) p nms → nms.length = c → mI M (q + 1) 3 = 0 → ∃ (L u : Nat) (bl : List br9), (mI M p 2 = ((L : Nat) : Int) ∧ L0 ≤ L) ∧ mI Mc (p + 12) cnt = ((u : Nat) : Int) ∧ cmF p O P L0 cnt u Mc M ∧ (mI M (p + 9) cnt = (if W k = 7 then 1 else 2) ∧ mI M (p + 10) cnt = pl k) ∧ (∃ s : Nat, mI M (p + 11) cnt = ((s : Nat) : Int) ∧ RwC M O P L0 L W pl nq sm n nms (k + 1) ar s) ∧ mI M (p + 12) (cnt + 1) = ((u + bl.length : Nat) : Int) ∧ bl.length = b ∧ (∀ e, no34 W k e → W e = 34 → brs9 W pl sm Nn nms e Nn (ar + 1) = bl ++ brs9 W pl sm Nn nms e (Nn - b) i) ∧ BrC M p O P L0 L V W pl nq sm n nms u bl
section TXS2
variable {W pl nq E : Nat → Int} {Cf : Nat → Int × Int} {sm : Nat → Nat → Prop} {Nn n V q p O P L L' L0 c cnt k ar i b u a j a2 ix e : Nat} {Mc M M' M1 M2 M3 : mM} {nms : List nm9} {fS : Int × Int}
theorem RwC.cg {i j s : Nat} (h : RwC M O P L0 L W pl nq sm n nms i j s) (cd : cdE O P L M M') (hL : L ≤ L') : RwC M' O P L0 L' W pl nq sm n nms i j s := by
  obtain ⟨Cf, e, h1, h2, h3, h4, h5, h6, h7, h8⟩ := h
  exact ⟨Cf, e, h1, h2, h3, h4, h5, h6.cg (fun t _ t2 => cd t (by omega)), by omega, by rw [(cd e h7).1]; exact h8⟩
theorem SwC.cg {l : List (Nat × Nat × Nat × Nat)} {s : Nat} (h : SwC M O P L0 L V W pl nq sm n nms l s) (cd : cdE O P L M M') (hL : L ≤ L') : SwC M' O P L0 L' V W pl nq sm n nms l s := by
  obtain ⟨e, h1, h2, h3, h4, h5⟩ := h
  exact ⟨e, h1, h2, Scw.cg l h3 (fun t _ t2 => cd t (by omega)), by omega, by rw [(cd e h4).1]; exact h5⟩
theorem BrC.cg {bl : List br9} (h : BrC M p O P L0 L V W pl nq sm n nms u bl) (cd : cdE O P L M M') (hL : L ≤ L') (e : ∀ t, t < u + bl.length → mI M' (p + 13) t = mI M (p + 13) t ∧ mI M' (p + 14) t = mI M (p + 14) t ∧ mI M' (p + 15) t = mI M (p + 15) t) : BrC M' p O P L0 L' V W pl nq sm n nms u bl := fun t x hx => by
  have tl : t < bl.length := (List.getElem?_eq_some_iff.mp hx).1
  obtain ⟨e13, e14, e15⟩ := e (u + t) (by omega)
  obtain ⟨a1, ⟨s1, a2, a3⟩, s2, a4, a5⟩ := h t x hx
  exact ⟨by rw [e13]; exact a1, ⟨s1, by rw [e14]; exact a2, a3.cg cd hL⟩, s2, by rw [e15]; exact a4, a5.cg cd hL⟩
theorem cmF.trans (h : cmF p O P L0 cnt u Mc M) (k : cmF p O P L0 cnt u M M') : cmF p O P L0 cnt u Mc M' := by
  obtain ⟨h1, h2, h3, h4, h5, h6⟩ := h
  obtain ⟨k1, k2, k3, k4, k5, k6⟩ := k
  exact ⟨fun i a b => by rw [k1 i a b, h1 i a b], fun j hj => ⟨by rw [(k2 j hj).1, (h2 j hj).1], by rw [(k2 j hj).2.1, (h2 j hj).2.1], by rw [(k2 j hj).2.2, (h2 j hj).2.2]⟩, fun j hj => by rw [k3 j hj, h3 j hj], fun t ht => ⟨by rw [(k4 t ht).1, (h4 t ht).1], by rw [(k4 t ht).2.1, (h4 t ht).2.1], by rw [(k4 t ht).2.2, (h4 t ht).2.2]⟩, fun i hi => ⟨by rw [(k5 i hi).1, (h5 i hi).1], by rw [(k5 i hi).2, (h5 i hi).2]⟩, by rw [k6, h6]⟩
theorem cmF.eq (e : ∀ i, 3 ≤ i → i ≤ 15 → mI M' (p + i) = mI M (p + i)) (cd : cdE O P L0 M M') (e11 : mI M' p 11 = mI M p 11) : cmF p O P L0 cnt u M M' := ⟨fun i a b => e i a (by omega), fun j _ => by rw [e 9 (by omega) (by omega), e 10 (by omega) (by omega), e 11 (by omega) (by omega)]; exact ⟨rfl, rfl, rfl⟩, fun j _ => by rw [e 12 (by omega) (by omega)], fun t _ => by rw [e 13 (by omega) (by omega), e 14 (by omega) (by omega), e 15 (by omega) (by omega)]; exact ⟨rfl, rfl, rfl⟩, cd, e11⟩
/-- a word more, or a fault: nothing else -/
theorem cmR9.cg (h : cmR9 W pl nq sm Nn n V q p O P L0 c cnt k ar nms Mc i b M) (h3 : mI M' (q + 1) 3 = 0 → mI M (q + 1) 3 = 0) (e : ∀ i, 3 ≤ i → i ≤ 15 → mI M' (p + i) = mI M (p + i)) (e2 : mI M' p 2 = mI M p 2) (e11 : mI M' p 11 = mI M p 11) (hO : mI M' O = mI M O) (hP : mI M' P = mI M P) : cmR9 W pl nq sm Nn n V q p O P L0 c cnt k ar nms Mc i b M' := fun ct hl y => by
  obtain ⟨L, u, bl, ⟨a1, a1'⟩, a2, a3, ⟨a4, a5⟩, ⟨s, a6, a7⟩, a8, a9, a10, a11⟩ := h ct hl (h3 y)
  have cd : ∀ L9, cdE O P L9 M M' := fun L9 i _ => by rw [hO, hP]; exact ⟨rfl, rfl⟩
  exact ⟨L, u, bl, ⟨by rw [e2]; exact a1, a1'⟩, a2, a3.trans (cmF.eq e (cd _) e11), ⟨by rw [e 9 (by omega) (by omega)]; exact a4, by rw [e 10 (by omega) (by omega)]; exact a5⟩, ⟨s, by rw [e 11 (by omega) (by omega)]; exact a6, a7.cg (cd _) (Nat.le_refl _)⟩, by rw [e 12 (by omega) (by omega)]; exact a8, a9, a10, a11.cg (cd _) (Nat.le_refl _) (fun t _ => by rw [e 13 (by omega) (by omega), e 14 (by omega) (by omega), e 15 (by omega) (by omega)]; exact ⟨rfl, rfl, rfl⟩)⟩
/-- one branch more, pure -/
theorem brs_step {e : Nat} (hia : i < Nn) (hka : k + 1 ≤ a) (n4 : no34 W k a) (ne : no34 W k e) (we : W e = 34) (eo : Eo W 6 a j) (w33 : W j = 33) (jn : j < Nn) (rx : (W (j + 1) = 10 ∧ a2 = j + 2) ∨ (W (j + 1) ≠ 10 ∧ a2 = (sef W pl sm Nn nms Nn (j + 1) []).2)) : brs9 W pl sm Nn nms e (Nn - i) a = (pl a, (a, j), sll W sm Nn nms (j + 1)) :: brs9 W pl sm Nn nms e (Nn - (i + 1)) (a2 + 1) := by
  have aj := eo.pr.1
  obtain ⟨f, hf⟩ : ∃ f, Nn - i = f + 1 := ⟨Nn - i - 1, by omega⟩
  have hf2 : Nn - (i + 1) = f := by omega
  have ea : ¬ e ≤ a := fun u => by
    by_cases v : e = a
    · have y := eo.rw9 (j := a) (Nat.le_refl _) aj
      rw [← v, we] at y
      unfold rwd at y
      omega
    · exact n4.2 e ne.1 (by omega) we
  have hq : clq W (a - 1) Nn = j := clq_eo (by rw [show a - 1 + 1 = a by omega]; exact eo) w33 jn
  unfold sll
  rw [hf, hf2, brs9, if_neg ea, hq]
  rcases rx with ⟨r1, r2⟩ | ⟨r1, r2⟩
  · rw [if_pos r1, if_pos r1, r2]
  · rw [if_neg r1, if_neg r1, r2]
/-- a branch is put behind the others -/
theorem cmR9.branch {s0 : Nat} (h : cmR9 W pl nq sm Nn n V q p O P L0 c cnt k ar nms Mc a i M) (hp : mI M p 2 = ((L : Nat) : Int)) (ctM : CT Mc (q + 1) p nms → CT M (q + 1) p nms) (ctM1 : CT Mc (q + 1) p nms → CT M1 (q + 1) p nms) (z1 : mI M1 (q + 1) 3 = 0 → mI M (q + 1) 3 = 0) (z2 : mI M2 (q + 1) 3 = 0 → mI M1 (q + 1) 3 = 0) (z3 : mI M3 (q + 1) 3 = 0 → mI M2 (q + 1) 3 = 0) (hix : mI M3 (q + 1) 3 = 0 → ix = cnt) (ch : chD W pl nq sm Cf q p O P n c L ix a j nms M M1) (hp1 : mI M1 p 2 = ((s0 : Nat) : Int)) (tx : txE M1 q p O P s0 M2) (se : seE W pl nq sm Nn n V M1 q p O P c (j + 1) s0 nms M2) (n3 : mI M3 (q + 1) 3 = 0 → ∀ t, mI M3 (p + 12) t = if t = ix + 1 then mI M2 (p + 12) (ix + 1) + 1 else mI M2 (p + 12) t) (nb : ∀ y, y ≠ p + 12 → mI M3 y = mI M2 y) (hO : O ≠ p + 12) (hP : P ≠ p + 12) (eo : Eo W 6 a j) (w33 : W j = 33) (jn : j < n) (hNn : n ≤ Nn) (hia : i < Nn) (hka : k + 1 ≤ a) (n4 : no34 W k a) (fl0 : CT Mc (q + 1) p nms → nms.length = c → mI M3 (q + 1) 3 = 0 → (fl W (E9 sm nms 0) pl 0 a j).1 = 0 ∧ ((W (j + 1) = 10 ∧ a2 = j + 2) ∨ (W (j + 1) ≠ 10 ∧ a2 = (sef W pl sm Nn nms Nn (j + 1) []).2))) : cmR9 W pl nq sm Nn n V q p O P L0 c cnt k ar nms Mc (a2 + 1) (i + 1) M3 := fun ct hl y => by
  have y2 := z3 y
  have y1 := z2 y2
  obtain ⟨L9, u, bl, ⟨a1, a1'⟩, b2, a3, ⟨a4, a5⟩, ⟨s, a6, a7⟩, a8, a9, a10, a11⟩ := h ct hl (z1 y1)
  have eL : L9 = L := by rw [hp] at a1; omega
  subst eL
  have eix := hix y
  subst eix
  obtain ⟨c1, c0, v, e, c2, c3, c4, c5, c6, c7⟩ := ch.1 y1
  have lf := ch.2 (ctM ct) hl
  have ev : v = u + bl.length := by rw [a8] at c2; omega
  have es0 : s0 = e + 1 := by rw [hp1] at c4; omega
  subst es0
  obtain ⟨s9, d1, d2, d3, d4⟩ := se (ctM1 ct) hl y2
  obtain ⟨f1, f2⟩ := fl0 ct hl y
  have lt := c6.lt
  have sle := Scw.le _ d3
  have tp := tx.2.2.2.2.1
  have to := tx.2.2.2.2.2
  have n3 := n3 y
  have p9 : ∀ i, 3 ≤ i → i ≤ 15 → i ≠ 12 → mI M3 (p + i) = mI M1 (p + i) := fun i i3 i15 i12 => by rw [nb _ (by omega), tp i i3 i15]
  have cd1 : cdE O P (e + 1) M1 M3 := fun t ht => by rw [nb O hO, nb P hP]; exact to t ht
  have cd : cdE O P L9 M M3 := fun t ht => by rw [(cd1 t (by omega)).1, (cd1 t (by omega)).2]; exact c7 t ht
  have cd3 : ∀ L', cdE O P L' M2 M3 := fun L' t _ => by rw [nb O hO, nb P hP]; exact ⟨rfl, rfl⟩
  have p12 : ∀ t, mI M3 (p + 12) t = if t = ix + 1 then ((u + bl.length + 1 : Nat) : Int) else mI M (p + 12) t := fun t => by
    rw [n3, tp 12 (by omega) (by omega), c1 12 (by omega) (by omega), a8]
    by_cases yt : t = ix + 1
    · rw [if_pos yt, if_pos yt]; omega
    · rw [if_neg yt, if_neg yt]
  have p2 : mI M3 p 2 = ((s9 + 1 : Nat) : Int) := by rw [nb p (by omega)]; exact d1
  have t3 : ∀ t, mI M3 (p + 13) t = (if t = v then pl a else mI M (p + 13) t) ∧ mI M3 (p + 14) t = (if t = v then ((L9 : Nat) : Int) else mI M (p + 14) t) ∧ mI M3 (p + 15) t = (if t = v then ((e + 1 : Nat) : Int) else mI M (p + 15) t) := fun t => by
    rw [p9 13 (by omega) (by omega) (by omega), p9 14 (by omega) (by omega) (by omega), p9 15 (by omega) (by omega) (by omega)]
    exact c3 t
  refine ⟨s9 + 1, u, bl ++ [(pl a, (a, j), sll W sm Nn nms (j + 1))], ⟨p2, by omega⟩, b2, a3.trans ⟨fun i i3 i8 => by rw [p9 i i3 (by omega) (by omega), c1 i i3 (by omega)], fun t _ => by rw [p9 9 (by omega) (by omega) (by omega), p9 10 (by omega) (by omega) (by omega), p9 11 (by omega) (by omega) (by omega), c1 9 (by omega) (by omega), c1 10 (by omega) (by omega), c1 11 (by omega) (by omega)]; exact ⟨rfl, rfl, rfl⟩, fun t ht => by rw [p12, if_neg (by omega)], fun t ht => by rw [(t3 t).1, (t3 t).2.1, (t3 t).2.2, if_neg (by omega), if_neg (by omega), if_neg (by omega)]; exact ⟨rfl, rfl, rfl⟩, fun t ht => cd t (by omega), by rw [nb p (by omega), tx.2.2.2.1 11 (by decide), c0]⟩, ⟨by rw [p9 9 (by omega) (by omega) (by omega), c1 9 (by omega) (by omega)]; exact a4, by rw [p9 10 (by omega) (by omega) (by omega), c1 10 (by omega) (by omega)]; exact a5⟩, ⟨s, by rw [p9 11 (by omega) (by omega) (by omega), c1 11 (by omega) (by omega)]; exact a6, a7.cg cd (by omega)⟩, ?_, by rw [List.length_append, a9]; rfl, fun e' ne we => ?_, fun t x hx => ?_⟩
  · rw [p12, if_pos rfl, List.length_append]
    rfl
  · rw [a10 e' ne we, brs_step hia hka n4 ne we eo w33 (by omega) f2, List.append_assoc]
    rfl
  · by_cases tl : t < bl.length
    · rw [List.getElem?_append_left tl] at hx
      have bc := a11.cg (L' := s9 + 1) cd (by omega) (fun t' ht' => by rw [(t3 t').1, (t3 t').2.1, (t3 t').2.2, if_neg (by omega), if_neg (by omega), if_neg (by omega)]; exact ⟨rfl, rfl, rfl⟩)
      exact bc t x hx
    · have tle := (List.getElem?_eq_some_iff.mp hx).1
      rw [List.length_append] at tle
      have te : t = bl.length := by simp at tle; omega
      subst te
      rw [List.getElem?_append_right (Nat.le_refl _), Nat.sub_self] at hx
      have hx : (pl a, (a, j), sll W sm Nn nms (j + 1)) = x := Option.some.inj hx
      subst hx
      rw [(t3 _).1, (t3 _).2.1, (t3 _).2.2, if_pos ev.symm, if_pos ev.symm, if_pos ev.symm]
      refine ⟨rfl, ⟨L9, rfl, Cf, e, lf, eo, Nat.le_of_lt jn, f1, a1', c6.cg (fun t _ t2 => cd1 t (by omega)), by omega, by rw [(cd1 e (by omega)).1]; exact c5⟩, e + 1, rfl, s9, d4, by omega, Scw.cg _ d3 (fun t _ _ => cd3 (t + 1) t (by omega)), by omega, by rw [nb O hO]; exact d2⟩
end TXS2
end
