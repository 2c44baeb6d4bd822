section
/-! The class's reader of texts, exactly: sets: bits of the vars that are set, names, one step of the pure sets. -/
theorem i_or9 {l m : Nat} (hl : l < 2147483648) (hm : m < 2147483648) : orI (l : Int) (m : Int) = ((l ||| m : Nat) : Int) := by
  unfold orI
  show (BitVec.ofInt 32 (l : Int) ||| BitVec.ofInt 32 (m : Int)).toInt = _
  have hb : ∀ x : Nat, x < 2147483648 → (BitVec.ofInt 32 (x : Int)).toNat = x := fun x hx => by
    rw [BitVec.toNat_ofInt]
    show ((x : Int) % 4294967296).toNat = x
    omega
  have hx : l ||| m < 2147483648 := Nat.or_lt_two_pow (n := 31) hl hm
  rw [BitVec.toInt_eq_toNat_cond, BitVec.toNat_or, hb l hl, hb m hm, if_pos (by omega)]
/-- the bit u of l -/
def sbt (l u : Nat) : Prop := l / 2 ^ u % 2 = 1
theorem sb_or {l u v : Nat} : sbt (l ||| 2 ^ v) u ↔ (sbt l u ∨ v = u) := by
  have h := Nat.testBit_or l (2 ^ v) u
  rw [Nat.testBit_eq_decide_div_mod_eq, Nat.testBit_eq_decide_div_mod_eq, Nat.testBit_two_pow, ← Bool.decide_or] at h
  exact decide_eq_decide.mp h
theorem sb_lt {l v : Nat} (hl : l < 4096) (hv : v < 12) : l ||| 2 ^ v < 4096 := Nat.or_lt_two_pow (n := 12) hl (Nat.pow_lt_pow_right (by decide) hv)
theorem sb_shl {v : Nat} (hv : v < 12) : shlI 1 (v : Int) = ((2 ^ v : Nat) : Int) := by
  have h : ∀ v, v < 12 → shlI 1 ((v : Nat) : Int) = ((2 ^ v : Nat) : Int) := by decide
  exact h v hv
theorem sb_and {l v : Nat} (hl : l < 4096) (hv : v < 12) : andI (shrI (l : Int) (v : Int)) 1 = 0 ↔ ¬ sbt l v := by
  rw [i_shr v (by omega) ⟨by omega, by omega⟩, i_and 1 (by decide) 1 (by decide) ⟨by decide, by decide⟩]
  have e : (l : Int) / 2 ^ v % 2 ^ 1 = ((l / 2 ^ v % 2 : Nat) : Int) := by norm_cast
  rw [e]
  unfold sbt
  omega
section TXO
variable {G : mG} {d z r q w T A B D N C n p O P K c V F k f i a : Nat} {M M' : mM} {ns : Nat → Int} {W pl nq : Nat → Int} {sm : Nat → Nat → Prop} {nms : List nm9} {seen : List Nat} {e : nm9}
theorem sefc_none (h : fnd9 sm nms (k + 1) = none) : sef W pl sm N nms (f + 1) k seen = ((2, pl (k + 1)), k) := by
  unfold sef
  rw [h]
theorem sefc_some (h : fnd9 sm nms (k + 1) = some e) : sef W pl sm N nms (f + 1) k seen = if e.2.1 ≠ 3 then ((2, pl (k + 1)), k) else if e.1 ∈ seen then ((4, pl (k + 1)), k) else if (rf9 W pl sm nms 0 e.2.2.1 (k + 4) (cpq W (k + 4) N)).1 ≠ 0 then (rf9 W pl sm nms 0 e.2.2.1 (k + 4) (cpq W (k + 4) N), k) else if W (cpq W (k + 4) N + 1) = 29 then sef W pl sm N nms f (cpq W (k + 4) N + 2) (e.1 :: seen) else ((0, 0), cpq W (k + 4) N + 1) := by
  conv => lhs; unfold sef
  rw [h]
/-- the first name of its word -/
def fst1 (nms : List nm9) (i : Nat) (e : nm9) : Prop := nms[i]? = some e ∧ ∀ (j : Nat) (e' : nm9), j < i → nms[j]? = some e' → e'.1 ≠ e.1
/-- which vars have been set -/
def snq (M : mM) (r : Nat) (nms : List nm9) (l : Nat) (seen : List Nat) : Prop := ∀ (i : Nat) (e : nm9), fst1 nms i e → e.2.1 = 3 → (sbt l (mI M (r + 8) i).toNat ↔ e.1 ∈ seen)
theorem snq.nil : snq M r nms 0 [] := fun i e _ _ => by
  unfold sbt
  simp
theorem snq.add {l v : Nat} (h : snq M r nms l seen) (ct : CT M r p nms) (tn : TN M r A n V F ns c) (hl : nms.length = c) (h1 : fst1 nms i e) (h3 : e.2.1 = 3) (hv : mI M (r + 8) i = (v : Int)) : snq M r nms (l ||| 2 ^ v) (e.1 :: seen) := fun j e' j1 j3 => by
  have jc : j < c := by rw [← hl]; exact (List.getElem?_eq_some_iff.mp j1.1).1
  have j0 : 0 ≤ mI M (r + 8) j := by
    obtain ⟨-, u, -⟩ := tn.2.2 j jc
    rcases u with u | u
    · exact u.2.1
    · exact u.2.1
  rw [sb_or, h j e' j1 j3, List.mem_cons]
  have key : v = (mI M (r + 8) j).toNat ↔ e'.1 = e.1 := by
    refine ⟨fun u => ?_, fun u => ?_⟩
    · have : j = i := (ct.2 i e h1.1).2.2.2.2.2 h3 j e' j1.1 j3 (by rw [hv, u, Int.toNat_of_nonneg j0])
      subst this
      have ee := j1.1.symm.trans h1.1
      rw [Option.some.inj ee]
    · have : j = i := by
        rcases Nat.lt_trichotomy j i with y | y | y
        · exact absurd u (h1.2 j e' y j1.1)
        · exact y
        · exact absurd u.symm (j1.2 i e y h1.1)
      rw [this, hv, Int.toNat_natCast]
  rw [key]
  exact Or.comm
/-- what find finds is the first of its word -/
theorem fm_fst {v : Nat} (ct : CT M r p nms) (h : fm M r T B D nms.length v i) (z : nms[i]? = some e) : fst1 nms i e := by
  refine ⟨z, fun j e' hj z' u => ?_⟩
  refine h.2.2 j hj ?_
  rw [(ct.2 j e' z').1, u, ← (ct.2 i e z).1]
  exact h.2.1
/-- varOf, exactly -/
theorem x_RR_varOf {v : Nat} (h : RB M z r w T A B D N C n p O P K) (nk : NK M r A n V F ns c) (hv : v < n) (h2 : mI M A v = 2) (h6 : mI M r 6 = 0) : Ci G y_RR_varOf (d + 2) [vr r, vi v] M (fun x M' => M' = M ∧ (x = -1 ∨ (0 ≤ x ∧ x < V)) ∧ ((nmn M r T B D c v ∧ x = -1) ∨ ∃ i : Nat, fm M r T B D c v i ∧ x = if mI M (r + 7) i = 5 then mI M (r + 8) i else -1)) := by
  obtain ⟨-, ⟨k0, ⟨-, -, -, -, -, -, q16, q17, q18⟩, ⟨-, -, -, -, -, -, kk7, kk8, kk9⟩, ⟨-, -, -, -, -, -, nn7, nn8, nn9⟩⟩, -⟩ := id h
  have hn := h.2.2.2.1.2.2.1
  have hN := h.2.2.2.1.1.2.2.2.2.2.2.1
  refine k_RR_varOf h.1 (i32s (by omega) (by omega)) ⟨k0, (x_RR_find h nk hv h2).mono (fun x3 M2 q => ?_)⟩
  obtain ⟨e2, hx⟩ := q
  subst e2
  rw [q16, q17, nn7, nn8]
  have hc := nk.2.1
  have hx0 : x3 = -1 ∨ ∃ i : Nat, x3 = i ∧ i < c := hx.imp (fun u => u.1) (fun ⟨i, u, v⟩ => ⟨i, u, v.1⟩)
  have hi3 : i32 x3 := by
    clear hx
    rcases hx0 with u | ⟨i, u, hi⟩ <;> rw [u] <;> exact i32s (by omega) (by omega)
  have rng : x3 ≠ -1 → (0 : Int) ≤ x3 ∧ x3 < ((72 : Nat) : Int) := fun y => by
    clear hx
    rcases hx0 with u | ⟨i, u, hi⟩
    · exact absurd u y
    · omega
  refine ⟨hi3, h.1, fun y => ⟨k0, kk7, rng y, fun _ => ⟨kk8, rng y⟩⟩, fun v12 e12 => ⟨rfl, ?_, ?_⟩⟩
  · clear hx0
    rcases hx with ⟨u, -⟩ | ⟨i, u, hi⟩
    · rw [if_pos (Or.inl u)] at e12
      exact Or.inl e12
    · rw [u, Int.toNat_natCast] at e12
      by_cases y : mI M2 (r + 7) i = 5
      · rw [if_neg (fun q => q.elim (fun v => by omega) (fun v => v y))] at e12
        rcases (nk.2.2 i hi.1).2.1 with ⟨-, v1, v2⟩ | ⟨v0, -⟩ | ⟨v0, -⟩
        · rw [e12]
          exact Or.inr ⟨v1, v2 h6⟩
        · exact absurd y (by omega)
        · exact absurd y (by omega)
      · rw [if_pos (Or.inr y)] at e12
        exact Or.inl e12
  · clear hx0
    rcases hx with ⟨u, u2⟩ | ⟨i, u, hi⟩
    · rw [if_pos (Or.inl u)] at e12
      exact Or.inl ⟨u2, e12⟩
    · rw [u, Int.toNat_natCast] at e12
      refine Or.inr ⟨i, hi, ?_⟩
      by_cases y : mI M2 (r + 7) i = 5
      · rw [if_neg (fun q => q.elim (fun v => by omega) (fun v => v y))] at e12
        rw [if_pos y]
        exact e12
      · rw [if_pos (Or.inr y)] at e12
        rw [if_neg y]
        exact e12
theorem x_RR_kindOf {v : Nat} (h : RB M z r w T A B D N C n p O P K) (nk : NK M r A n V F ns c) (hv : v < n) (h2 : mI M A v = 2) : Ci G y_RR_kindOf (d + 2) [vr r, vi v] M (fun x M' => M' = M ∧ (0 ≤ x ∧ x ≤ 2) ∧ ((nmn M r T B D c v ∧ x = 0) ∨ ∃ i : Nat, fm M r T B D c v i ∧ x = if mI M (r + 9) i = 0 then 1 else 2)) := by
  obtain ⟨-, ⟨k0, ⟨-, -, -, -, -, -, q16, q17, q18⟩, ⟨-, -, -, -, -, -, kk7, kk8, kk9⟩, ⟨-, -, -, -, -, -, nn7, nn8, nn9⟩⟩, -⟩ := id h
  have hn := h.2.2.2.1.2.2.1
  have hN := h.2.2.2.1.1.2.2.2.2.2.2.1
  refine k_RR_kindOf h.1 (i32s (by omega) (by omega)) ⟨k0, (x_RR_find h nk hv h2).mono (fun x3 M2 q => ?_)⟩
  obtain ⟨e2, hx⟩ := q
  subst e2
  rw [q18, nn9]
  have hc := nk.2.1
  have hx0 : x3 = -1 ∨ ∃ i : Nat, x3 = i ∧ i < c := hx.imp (fun u => u.1) (fun ⟨i, u, v⟩ => ⟨i, u, v.1⟩)
  have hi3 : i32 x3 := by
    clear hx
    rcases hx0 with u | ⟨i, u, hi⟩ <;> rw [u] <;> exact i32s (by omega) (by omega)
  refine ⟨hi3, h.1, fun y => ⟨k0, kk9, ?_⟩, fun v12 e12 => ⟨rfl, ?_, ?_⟩⟩
  · clear hx
    rcases hx0 with u | ⟨i, u, hi⟩
    · exact absurd u y
    · omega
  · clear hx hx0
    rw [e12]
    (repeat' split) <;> omega
  · clear hx0
    rcases hx with ⟨u, u2⟩ | ⟨i, u, hi⟩
    · rw [if_pos u] at e12
      exact Or.inl ⟨u2, e12⟩
    · rw [u, if_neg (by omega), Int.toNat_natCast] at e12
      exact Or.inr ⟨i, hi, e12⟩
end TXO
end
section
/-! The class's reader of texts, exactly: the sets' faults, and one set. -/
section TXP
variable {G : mG} {d z q w T A B D N C n p O P K Ab Be Cm V F c s L cnt a s9 S0 k i k0 Nn a' : Nat} {M0 M M' M1 M2 Mc : mM} {ns : Nat → Int} {sf ef : Nat → Nat} {W pl nq E : Nat → Int} {sm : Nat → Nat → Prop} {nms : List nm9} {ft fS vR : Int × Int} {l2 l6 x : Int}
/-- the pure sets from the word k0 on -/
noncomputable abbrev sef0 (W pl : Nat → Int) (sm : Nat → Nat → Prop) (Nn : Nat) (nms : List nm9) (k0 : Nat) : (Int × Int) × Nat := sef W pl sm Nn nms Nn k0 []
/-- i sets have been read, the next begins at the word k; their fault fS, their vars l2 -/
def seK (W pl : Nat → Int) (sm : Nat → Nat → Prop) (Nn : Nat) (Mc : mM) (q p c k0 : Nat) (nms : List nm9) (fS : Int × Int) (l2 : Int) (i k : Nat) : Prop := CT Mc (q + 1) p nms → nms.length = c → (fS.1 ≠ 0 → (sef0 W pl sm Nn nms k0).1 = fS) ∧ (fS.1 = 0 → ∃ (l : Nat) (seen : List Nat), l2 = l ∧ l < 4096 ∧ snq Mc (q + 1) nms l seen ∧ sef0 W pl sm Nn nms k0 = sef W pl sm Nn nms (Nn - i) k seen)
/-- they are over at the word a -/
def seO (W pl : Nat → Int) (sm : Nat → Nat → Prop) (Nn : Nat) (Mc : mM) (q p c k0 : Nat) (nms : List nm9) (fS : Int × Int) (a : Nat) : Prop := CT Mc (q + 1) p nms → nms.length = c → (fS.1 ≠ 0 → (sef0 W pl sm Nn nms k0).1 = fS) ∧ (fS.1 = 0 → (sef0 W pl sm Nn nms k0).1.1 = 0 ∧ a = (sef0 W pl sm Nn nms k0).2)
def seNb (W pl : Nat → Int) (sm : Nat → Nat → Prop) (Nn : Nat) (Mc : mM) (q k0 : Nat) (nms : List nm9) (fS : Int × Int) (l2 l6 : Int) (i k : Nat) : Prop := (fS.1 ≠ 0 → (sef0 W pl sm Nn nms k0).1 = fS) ∧ (fS.1 = 0 → ∃ (l : Nat) (seen : List Nat) (j : Nat) (e : nm9), l2 = l ∧ l < 4096 ∧ snq Mc (q + 1) nms l seen ∧ sef0 W pl sm Nn nms k0 = sef W pl sm Nn nms (Nn - i) k seen ∧ fnd9 sm nms (k + 1) = some e ∧ fst1 nms j e ∧ e.2.1 = 3 ∧ e.1 ∉ seen ∧ l6 = mI Mc (q + 1 + 8) j)
/-- the next set's name has been read, its var is l6 -/
def seN (W pl : Nat → Int) (sm : Nat → Nat → Prop) (Nn : Nat) (Mc : mM) (q p c k0 : Nat) (nms : List nm9) (fS : Int × Int) (l2 l6 : Int) (i k : Nat) : Prop := CT Mc (q + 1) p nms → nms.length = c → seNb W pl sm Nn Mc q k0 nms fS l2 l6 i k
theorem srt9_5 {y : Nat} (h : 1 ≤ y ∧ y ≤ 3) : srt9 y = 5 ↔ y = 3 := by
  unfold srt9
  split
  · omega
  · split <;> omega
theorem seK.nm (h : seK W pl sm Nn Mc q p c k0 nms fS l2 i k) (hik : i ≤ k) (hN : n ≤ Nn) (hk : k + 1 < n) (ctM : CT Mc (q + 1) p nms → CT M (q + 1) p nms) (e8 : mI M (q + 1 + 8) = mI Mc (q + 1 + 8)) (wt : WTq M T A B D n W pl nq sm) (tn : TN M (q + 1) A n V F ns c) (V12 : V ≤ 12) (w1 : W (k + 1) = 1) (hx : (nmn M (q + 1) T B D c (k + 1) ∧ x = -1) ∨ ∃ i : Nat, fm M (q + 1) T B D c (k + 1) i ∧ x = if mI M (q + 1 + 7) i = 5 then mI M (q + 1 + 8) i else -1) : (x = -1 → seN W pl sm Nn Mc q p c k0 nms (fst9 fS (2, pl (k + 1))) l2 x i k) ∧ (x ≠ -1 → andI (shrI l2 x) 1 = 0 → seN W pl sm Nn Mc q p c k0 nms fS l2 x i k) ∧ (x ≠ -1 → andI (shrI l2 x) 1 ≠ 0 → seN W pl sm Nn Mc q p c k0 nms (fst9 fS (4, pl (k + 1))) l2 x i k) := by
  have key : CT Mc (q + 1) p nms → nms.length = c → (x = -1 → seNb W pl sm Nn Mc q k0 nms (fst9 fS (2, pl (k + 1))) l2 x i k) ∧ (x ≠ -1 → andI (shrI l2 x) 1 = 0 → seNb W pl sm Nn Mc q k0 nms fS l2 x i k) ∧ (x ≠ -1 → andI (shrI l2 x) 1 ≠ 0 → seNb W pl sm Nn Mc q k0 nms (fst9 fS (4, pl (k + 1))) l2 x i k) := fun ct hl => by
    obtain ⟨h1, h2⟩ := h ct hl
    by_cases f0 : fS.1 = 0
    · obtain ⟨l, seen, e2, l4, sn, es⟩ := h2 f0
      have es' := es
      obtain ⟨f, hf⟩ : ∃ f, Nn - i = f + 1 := ⟨Nn - i - 1, by
        clear hx h h1 h2
        omega⟩
      rw [hf] at es
      have cM := ctM ct
      have hw : ∀ i, i < nms.length → ∃ v : Nat, mI M (q + 1 + 6) i = v ∧ v < n ∧ mI M A v = 2 := fun i hi => (tn.2.2 i (by rw [← hl]; exact hi)).1
      rw [fst9_zr f0, fst9_zr f0]
      have bad : ∀ {y : Int}, y ≠ 0 → sef0 W pl sm Nn nms k0 = ((y, pl (k + 1)), k) → seNb W pl sm Nn Mc q k0 nms (y, pl (k + 1)) l2 x i k := fun {y} y0 u => ⟨fun _ => by rw [u], fun v => absurd v y0⟩
      rcases cM.fnd wt hw hk w1 with ⟨q1, q2⟩ | ⟨j, e, q1, q2, q3⟩
      · rw [hl] at q1
        have ex : x = -1 := by
          rcases hx with u | ⟨j, u, -⟩
          · exact u.2
          · exact absurd u.2.1 (q1 j u.1)
        rw [sefc_none q2] at es
        exact ⟨fun _ => bad (by decide) es, fun u => absurd ex u, fun u => absurd ex u⟩
      · have f1 := fm_fst cM q1 q2
        rw [hl] at q1
        have ex : x = if mI M (q + 1 + 7) j = 5 then mI M (q + 1 + 8) j else -1 := by
          rcases hx with u | ⟨j', u, v⟩
          · exact absurd q1.2.1 (u.1 j q1.1)
          · rw [fm_un q1 u]
            exact v
        obtain ⟨-, s2, s3, -⟩ := cM.2 j e q2
        rw [sefc_some q3] at es
        by_cases e3 : e.2.1 = 3
        · have s5 : mI M (q + 1 + 7) j = 5 := by rw [s2]; exact (srt9_5 s3).mpr e3
          rw [if_pos s5] at ex
          have rg : 0 ≤ mI M (q + 1 + 8) j ∧ mI M (q + 1 + 8) j < V := by
            obtain ⟨-, u, -⟩ := tn.2.2 j q1.1
            rcases u with u | u
            · exact ⟨u.2.1, u.2.2⟩
            · rcases u.1 with v | v <;> rw [s5] at v <;> exact absurd v (by first | decide | simp)
          obtain ⟨v, hv⟩ : ∃ v : Nat, mI M (q + 1 + 8) j = v := ⟨(mI M (q + 1 + 8) j).toNat, by rw [Int.toNat_of_nonneg rg.1]⟩
          have v12 : v < 12 := by
            clear hx h h1 h2
            omega
          have vn : ((v : Nat) : Int) ≠ -1 := by
            clear hx h h1 h2
            omega
          rw [if_neg (fun u => u e3)] at es
          have sb := sn j e f1 e3
          rw [← e8, hv, Int.toNat_natCast] at sb
          have sb := (sb_and l4 v12).trans (not_congr sb)
          rw [← e2] at sb
          rw [ex, hv]
          refine ⟨fun u => absurd u vn, fun _ u => ⟨fun u => absurd f0 u, fun _ => ⟨l, seen, j, e, e2, l4, sn, es', q3, f1, e3, sb.mp u, by rw [← e8, hv]⟩⟩, fun _ u => ?_⟩
          have mem : e.1 ∈ seen := Classical.byContradiction (fun z => u (sb.mpr z))
          rw [if_pos mem] at es
          have b := bad (y := 4) (by decide) es
          rw [ex, hv] at b
          exact b
        · have s5 : mI M (q + 1 + 7) j ≠ 5 := by
            rw [s2]
            exact fun u => e3 ((srt9_5 s3).mp u)
          rw [if_neg s5] at ex
          rw [if_pos e3] at es
          exact ⟨fun _ => bad (by decide) es, fun u => absurd ex u, fun u => absurd ex u⟩
    · rw [fst9_n f0, fst9_n f0]
      have all : seNb W pl sm Nn Mc q k0 nms fS l2 x i k := ⟨h1, fun u => absurd u f0⟩
      exact ⟨fun _ => all, fun _ _ => all, fun _ _ => all⟩
  exact ⟨fun u ct hl => (key ct hl).1 u, fun u v ct hl => (key ct hl).2.1 u v, fun u v ct hl => (key ct hl).2.2 u v⟩
theorem seN.next (h : seN W pl sm Nn Mc q p c k0 nms fS l2 l6 i k) (hik : i ≤ k) (hN : n ≤ Nn) (hk : k < n) (tn : TN Mc (q + 1) A n V F ns c) (V12 : V ≤ 12) (eo : Eo W 6 (k + 4) a') (w37 : W a' = 37) (ha' : a' < n) (hvr : CT Mc (q + 1) p nms → nms.length = c → ∀ e, fnd9 sm nms (k + 1) = some e → vR = rf9 W pl sm nms 0 e.2.2.1 (k + 4) a') : (W (a' + 1) = 29 → seK W pl sm Nn Mc q p c k0 nms (fst9 fS vR) (orI l2 (if l6 = -1 then 0 else shlI 1 l6)) (i + 1) (a' + 2)) ∧ (W (a' + 1) ≠ 29 → seO W pl sm Nn Mc q p c k0 nms (fst9 fS vR) (a' + 1)) := by
  have es9 : ∀ {e : nm9} {seen : List Nat}, CT Mc (q + 1) p nms → nms.length = c → sef0 W pl sm Nn nms k0 = sef W pl sm Nn nms (Nn - i) k seen → fnd9 sm nms (k + 1) = some e → e.2.1 = 3 → e.1 ∉ seen → sef0 W pl sm Nn nms k0 = if vR.1 ≠ 0 then (vR, k) else if W (a' + 1) = 29 then sef W pl sm Nn nms (Nn - (i + 1)) (a' + 2) (e.1 :: seen) else ((0, 0), a' + 1) := fun {e seen} ct hl es fe e3 nS => by
    have ev := hvr ct hl e fe
    have cp : cpq W (k + 4) Nn = a' := cpq_at eo w37 (by omega)
    obtain ⟨f, hf⟩ : ∃ f, Nn - i = f + 1 := ⟨Nn - i - 1, by omega⟩
    have hf2 : Nn - (i + 1) = f := by omega
    rw [hf, sefc_some fe, if_neg (fun u => u e3), if_neg nS, cp, ← ev] at es
    rw [hf2]
    exact es
  by_cases f0 : fS.1 = 0
  · rw [fst9_zr f0]
    refine ⟨fun w29 ct hl => ?_, fun w29 ct hl => ?_⟩
    · obtain ⟨l, seen, j, e, e2, l4, sn, es, fe, f1, e3, nS, e6⟩ := (h ct hl).2 f0
      have es := es9 ct hl es fe e3 nS
      refine ⟨fun v0 => by rw [es, if_pos v0], fun v0 => ?_⟩
      rw [if_neg (fun u => u v0), if_pos w29] at es
      have jc : j < c := by rw [← hl]; exact (List.getElem?_eq_some_iff.mp f1.1).1
      have s5 : mI Mc (q + 1 + 7) j = 5 := by
        obtain ⟨-, s2, s3, -⟩ := ct.2 j e f1.1
        rw [s2]
        exact (srt9_5 s3).mpr e3
      have rg : 0 ≤ mI Mc (q + 1 + 8) j ∧ mI Mc (q + 1 + 8) j < V := by
        obtain ⟨-, u, -⟩ := tn.2.2 j jc
        rcases u with u | u
        · exact ⟨u.2.1, u.2.2⟩
        · rcases u.1 with v | v <;> rw [s5] at v <;> exact absurd v (by first | decide | simp)
      obtain ⟨v, hv⟩ : ∃ v : Nat, mI Mc (q + 1 + 8) j = v := ⟨(mI Mc (q + 1 + 8) j).toNat, by rw [Int.toNat_of_nonneg rg.1]⟩
      have v12 : v < 12 := by
        clear h hvr
        omega
      have p12 : 2 ^ v < 2147483648 := Nat.lt_trans (Nat.pow_lt_pow_right (by decide) v12) (by decide)
      refine ⟨l ||| 2 ^ v, e.1 :: seen, ?_, sb_lt l4 v12, sn.add ct tn hl f1 e3 hv, es⟩
      rw [e2, e6, hv, if_neg (by omega), sb_shl v12, i_or9 (by omega) p12]
    · obtain ⟨l, seen, j, e, e2, l4, sn, es, fe, f1, e3, nS, e6⟩ := (h ct hl).2 f0
      have es := es9 ct hl es fe e3 nS
      refine ⟨fun v0 => by rw [es, if_pos v0], fun v0 => ?_⟩
      rw [if_neg (fun u => u v0), if_neg w29] at es
      exact ⟨by rw [es], by rw [es]⟩
  · rw [fst9_n f0]
    exact ⟨fun _ ct hl => ⟨(h ct hl).1, fun u => absurd u f0⟩, fun _ ct hl => ⟨(h ct hl).1, fun u => absurd u f0⟩⟩
/-- no ';' from k up to a -/
def no34 (W : Nat → Int) (k a : Nat) : Prop := k ≤ a ∧ ∀ j, k ≤ j → j < a → W j ≠ 34
theorem no34.sc (h : no34 W k a) (w : W a ≠ 34) : no34 W k (a + 1) := ⟨Nat.le_succ_of_le h.1, fun j h1 h2 => by
  by_cases e : j = a
  · rw [e]; exact w
  · exact h.2 j h1 (by omega)⟩
theorem Eo.rw9 {b j : Nat} (eo : Eo W 6 a b) (h1 : a ≤ j) (h2 : j < b) : rwd (W j) := by
  have u := (eo.pr.2.2.2.2.1.2.2.2 (j - a) (by omega)).1
  rw [show a + (j - a) = j by omega] at u
  exact u
theorem no34.eo {b : Nat} (h : no34 W k a) (eo : Eo W 6 a b) : no34 W k b := ⟨Nat.le_trans h.1 (Nat.le_of_lt eo.pr.1), fun j h1 h2 => by
  by_cases e : j < a
  · exact h.2 j h1 e
  · have u := eo.rw9 (j := j) (by omega) h2
    unfold rwd at u
    omega⟩
theorem no34.join {b : Nat} (h : no34 W k a) (g : no34 W a b) : no34 W k b := ⟨Nat.le_trans h.1 g.1, fun j h1 h2 => by
  by_cases e : j < a
  · exact h.2 j h1 e
  · exact g.2 j (by omega) h2⟩
/-- the sets are over, and no ';' stands in them -/
def seP (W pl : Nat → Int) (sm : Nat → Nat → Prop) (Nn : Nat) (Mc : mM) (q p c k0 : Nat) (nms : List nm9) (fS : Int × Int) (a : Nat) : Prop := seO W pl sm Nn Mc q p c k0 nms fS a ∧ no34 W k0 a
/-- the sets' end, exactly -/
def rsV (W : Nat → Int) (q : Nat) (ft : Int × Int) (X : Int × Int → Nat → Prop) (x : Int) (M' : mM) : Prop := ∃ a' : Nat, mI M' (q + 1) 2 = a' ∧ ((x = 0 ∧ Rf W [50] 0 a') ∨ (x = 1 ∧ Rc W [50] 0 [57, 34, 50] a' ∧ ∃ fS : Int × Int, FT M' (q + 1) (fst9 ft fS) ∧ X fS a'))
/-- before a set, or behind the last -/
def rsJ (T A B D n : Nat) (W pl nq : Nat → Int) (sm : Nat → Nat → Prop) (Nn : Nat) (Mc : mM) (q p c k0 : Nat) (nms : List nm9) (ft : Int × Int) (X : Int × Int → Nat → Prop) (l1 l2 : Int) (i a : Nat) (M : mM) : Prop := WTq M T A B D n W pl nq sm ∧ ∃ fS : Int × Int, FT M (q + 1) (fst9 ft fS) ∧ ((l1 ≠ 0 ∧ i ≤ a ∧ Rc W [50] 0 [59, 60, 57, 34, 50] a ∧ seK W pl sm Nn Mc q p c k0 nms fS l2 i a ∧ no34 W k0 a) ∨ (l1 = 0 ∧ Rc W [50] 0 [57, 34, 50] a ∧ X fS a))
theorem x_rs_end {X : Int × Int → Nat → Prop} (h : rsI M0 z q w T A B D N C n p O P K Ab Be Cm V F ns sf ef c cnt L S0 a s9 M) (hF : FT M (q + 1) (fst9 ft fS)) (hR : Rc W [50] 0 [57, 34, 50] a) (hX : X fS a) : Ci G y_Pr_add d [vr p, vi 0, vi 0] M (fun x22 M21 => i32 x22 ∧ mOk M21 ∧ (rsQ9 M0 z q w T A B D N C n p O P K Ab Be Cm V F ns sf ef c cnt L S0 1 M21 ∧ rsV W q ft X 1 M21)) := by
  obtain ⟨h1, f1, a1, a2, p1, p2, p3, d1, c1, sc, hL⟩ := h
  obtain ⟨⟨np0, np1, -, -⟩, ⟨nO0, nO1, -, -, -⟩, nP0, nP1, -, -, -⟩ := h1.1.ne
  refine (s_tx_add (i32s (by omega) (by omega)) (i32s (by omega) (by omega)) h1 p1 (by omega) (by omega)).mono (fun v M' k => ?_)
  obtain ⟨v1, v2, v3, v4, v5, v6, v7, v8⟩ := k
  have e1 := v8 (q + 1) np1.symm nO1.symm nP1.symm
  refine ⟨v1, v2, ⟨f1.trans (v4.less p2), Or.inr ⟨rfl, v3, a, s9, by rw [e1]; exact a1, a2, v5, p2, p3, by rw [e1]; exact d1, by rw [e1]; exact c1, fun y => ?_⟩⟩, a, by rw [e1]; exact a1, Or.inr ⟨rfl, hR, fS, hF.same (by rw [e1]) (by rw [e1]), hX⟩⟩
  rw [e1] at y
  obtain ⟨H, u1, u2, u3, u4⟩ := sc y
  refine ⟨H, fun pc h0 h2 => ?_, u2, u3, by omega, by rw [v6, if_pos rfl], u4⟩
  rw [v6, v7, if_neg (by omega), if_neg (by omega)]
  exact u1 pc h0 h2
end TXP
end
section
/-! The class's reader of texts, exactly: one set, from behind its name on. -/
section TXQ
variable {G : mG} {d z q w T A B D N C n p O P K Ab Be Cm V F c s L cnt a s9 S0 k i k0 Nn : Nat} {M0 M M' M1 M2 : mM} {ns : Nat → Int} {sf ef : Nat → Nat} {W pl nq : Nat → Int} {sm : Nat → Nat → Prop} {nms : List nm9} {ft fS : Int × Int}
theorem kft_kd {tr : Int} {E : Nat → Int} {x y : Nat} (l1 : Int) (ht : tr = 0 ∨ tr = 1) (hl : l1 = if tr = 0 then 1 else 2) : (l1 = 0 ∨ kdq W E 0 x y = (if l1 = 2 then 1 else 0)) ↔ kdq W E 0 x y = tr := by
  rcases ht with u | u
  · rw [u, if_pos rfl] at hl
    rw [hl, u]
    simp
  · rw [u, if_neg (by decide)] at hl
    rw [hl, u]
    simp
theorem hz37 : ∀ j, lwx (W j) = 3 → Rf W [37, 75, 60, 57, 34, 50] j j := fun j hj => Rf.of (mst_tn (by decide) (fun u => by
  rw [← u] at hj
  exact absurd hj (by first | decide | simp)))
theorem rc60 {zr : List Int} (h : W a ≠ 29) : Rc W (60 :: zr) a zr a := Rc.one (mst_n (by decide) (by decide) (ys := []) (t := 0) (by
  show ex60 (W a) = _
  unfold ex60
  rw [if_neg h]) (Or.inl (by decide)))
theorem rc60m {zr : List Int} (h : W a = 29) : Rc W (60 :: zr) a (59 :: 60 :: zr) (a + 1) := Rc.one (mst_n (by decide) (by decide) (ys := [59, 60]) (t := 1) (by
  show ex60 (W a) = _
  unfold ex60
  rw [if_pos h]) (Or.inl (by decide)))
theorem i43_ {l4 l6 : Int} {V : Nat} (b4 : 0 ≤ l4 ∧ l4 ≤ 16384) (h6 : l6 = -1 ∨ (0 ≤ l6 ∧ l6 < V)) (hV : V ≤ 16384) : i32 ((l4 * 16) + (if l6 < 0 then 0 else l6)) := by
  split <;> exact ⟨by omega, by omega⟩
theorem x_rs168 {l2 l3 l4 l6 : Int} (i2 : i32 l2) (i3 : i32 l3) (b4 : 0 ≤ l4 ∧ l4 ≤ 16384) (h6 : l6 = -1 ∨ (0 ≤ l6 ∧ l6 < V)) (hw : k + 1 < n ∧ mI M A (k + 1) = 2) (h : rsI M0 z q w T A B D N C n p O P K Ab Be Cm V F ns sf ef c cnt L S0 (k + 2) s9 M) (hf : l6 = -1 → mI M (q + 1) 3 ≠ 0) (wt : WTq M T A B D n W pl nq sm) (hFT : FT M (q + 1) (fst9 ft fS)) (w1 : W (k + 1) = 1) (sn : seN W pl sm Nn M0 q p c k0 nms fS l2 l6 i k) (hR : Rc W [50] 0 [38, 23, 61, 37, 75, 60, 57, 34, 50] (k + 2)) (hik : i ≤ k) (hNn : n ≤ Nn) (tn0 : TN M0 (q + 1) A n V F ns c) (n4 : no34 W k0 (k + 2)) (nx : ∀ (M1 : mM) (l1 l2 : Int) (a' s' : Nat), i32 l1 → i32 l2 → rsI M0 z q w T A B D N C n p O P K Ab Be Cm V F ns sf ef c cnt L S0 a' s' M1 → rsJ T A B D n W pl nq sm Nn M0 q p c k0 nms ft (seP W pl sm Nn M0 q p c k0 nms) l1 l2 (i + 1) a' M1 → h_TR_readSets_22 G (d + 5) q l1 l2 (l3 + 1) M1 (fun x M' => rsQ9 M0 z q w T A B D N C n p O P K Ab Be Cm V F ns sf ef c cnt L S0 x M' ∧ rsV W q ft (seP W pl sm Nn M0 q p c k0 nms) x M')) : h_TR_readSets_168 G (d + 5) q l2 l3 l4 ((k + 1 : Nat) : Int) l6 M (fun x M' => rsQ9 M0 z q w T A B D N C n p O P K Ab Be Cm V F ns sf ef c cnt L S0 x M' ∧ rsV W q ft (seP W pl sm Nn M0 q p c k0 nms) x M') := by
  obtain ⟨h1, f1, a1, a2, p1, p2, p3, d1, c1, sc, hL⟩ := h
  obtain ⟨⟨np0, np1, -, -⟩, ⟨nO0, nO1, -, -, nOp⟩, nP0, nP1, -, -, nPp⟩ := h1.1.ne
  obtain ⟨q01, q10, q210, q211, -⟩ := q_ne q
  have hV := h1.2.1.1.2
  have hN : n ≤ 16384 := by have := h1.1.1.2.2.2.1.2.2.1; have := h1.1.1.2.2.2.1.1.2.2.2.2.2.2.1; omega
  obtain ⟨t0, t1, t2, t3, t4, t5⟩ := h1.1.2.1
  refine k_TR_readSets_168 h1.1.1.1 i2 i3 (i32s (by omega) (by omega)) (i32s (by omega) (by omega)) (i32s (by omega) (by omega)) (fun v73 e73 => ?_)
  have i73 : i32 (orI l2 v73) := m_i32 _
  rw [t1, d1]
  refine ⟨t0, h1.1.1.2.1.1, ⟨by decide, by decide⟩, fun M80 e80 => ?_⟩
  obtain ⟨h80, x80, g80⟩ := tx_ui h1 ⟨by decide, by decide⟩ e80 (Or.inr (Or.inr (Or.inr (Or.inl ⟨rfl, Or.inr (Or.inl rfl)⟩))))
  have f80 : txF M0 q p O P S0 M80 := f1.trans ⟨x80.1, x80.2.1, x80.2.2.1, x80.2.2.2.1, x80.2.2.2.2.1, x80.2.2.2.2.2.1, fun i _ => ⟨by rw [g80, if_neg (fun u => nO1 u.1)], by rw [g80, if_neg (fun u => nP1 u.1)]⟩⟩
  have r80 : ∀ i, i ≠ 5 → mI M80 (q + 1) i = mI M (q + 1) i := fun i hi => by rw [g80, if_neg (fun u => hi u.2)]
  have b80 : ∀ b, b ≠ q + 1 → mI M80 b = mI M b := fun b hb => by
    funext i
    rw [g80, if_neg (fun u => hb u.1)]
  have d80 : mI M80 (q + 1) 5 = ((1 : Nat) : Int) := by rw [g80, if_pos ⟨rfl, rfl⟩]; rfl
  have a80 : mI M80 (q + 1) 2 = ((k + 2 : Nat) : Int) := by rw [r80 2 (by decide)]; exact a1
  have wt80 : WTq M80 T A B D n W pl nq sm := wt.fi h1.1 x80.1
  rw [h80.1.2.1.2.1]
  refine ⟨h80.1.1.2.1.1, (x_tx_accept (x := 39) (i32s (by omega) (by omega)) (by omega) h80 a80 a2).mono (fun x84 M83 kk => ?_)⟩
  obtain ⟨i84, o83, -, h83, x83, k83, r83, b83, m83⟩ := kk
  have f83 : txF M0 q p O P S0 M83 := f80.trans ⟨x83.1, x83.2.1, x83.2.2.1, x83.2.2.2.1, x83.2.2.2.2.1, x83.2.2.2.2.2.1, fun i _ => ⟨by rw [b83 O nO1], by rw [b83 P nP1]⟩⟩
  refine ⟨i84, o83, fun y => ?_, fun y => ?_⟩
  · rw [(k83.resolve_left (fun u => by rw [y] at u; exact absurd u.1 (by first | decide | simp))).2]
    exact ⟨⟨f80, Or.inl ⟨rfl, h80, k + 2, a80, a2⟩⟩, k + 2, a80, Or.inl ⟨rfl, rf_t hR (fun u => m83 y ((wt80.is a2 (by decide) (by decide)).mpr u)) (by decide)⟩⟩
  obtain ⟨-, e38, a83, an83⟩ := k83.resolve_right (fun u => y u.1)
  clear k83
  have rc3 : Rc W [50] 0 [23, 61, 37, 75, 60, 57, 34, 50] (k + 3) := rc_t hR ((wt80.is a2 (by decide) (by decide)).mp e38) (by decide)
  have wt83 : WTq M83 T A B D n W pl nq sm := wt80.fi h80.1 x83.1
  rw [h83.1.2.1.2.1]
  refine ⟨h83.1.2.1.1, h83.1.1.2.1.1, (x_tx_accept (x := 24) (i32s (by omega) (by omega)) (by omega) h83 a83 an83).mono (fun x91 M90 kk => ?_)⟩
  obtain ⟨i91, o90, -, h90, x90, k90, r90, b90, m90⟩ := kk
  have f90 : txF M0 q p O P S0 M90 := f83.trans ⟨x90.1, x90.2.1, x90.2.2.1, x90.2.2.2.1, x90.2.2.2.2.1, x90.2.2.2.2.2.1, fun i _ => ⟨by rw [b90 O nO1], by rw [b90 P nP1]⟩⟩
  refine ⟨i91, o90, fun y => ?_, fun y => ?_⟩
  · rw [(k90.resolve_left (fun u => by rw [y] at u; exact absurd u.1 (by first | decide | simp))).2]
    exact ⟨⟨f83, Or.inl ⟨rfl, h83, k + 3, a83, an83⟩⟩, k + 3, a83, Or.inl ⟨rfl, rf_t rc3 (fun u => m90 y ((wt83.is an83 (by decide) (by decide)).mpr u)) (by decide)⟩⟩
  obtain ⟨-, e23, a90, an90⟩ := k90.resolve_right (fun u => y u.1)
  clear k90
  have rc4 : Rc W [50] 0 [61, 37, 75, 60, 57, 34, 50] (k + 4) := rc_t rc3 ((wt83.is an83 (by decide) (by decide)).mp e23) (by decide)
  have wt90 : WTq M90 T A B D n W pl nq sm := wt83.fi h83.1 x90.1
  have A90 : mI M90 A (k + 1) = 2 := by rw [(h83.1.words x90.1).1, (h80.1.words x83.1).1, (h1.1.words x80.1).1]; exact hw.2
  have p90 : mI M90 p 2 = ((s9 : Nat) : Int) := by rw [b90 p np1, b83 p np1, b80 p np1]; exact p1
  have d90 : mI M90 (q + 1) 5 = ((1 : Nat) : Int) := by rw [r90 5 (by decide), r83 5 (by decide)]; exact d80
  have c90 : mI M90 (q + 1) 6 = 0 := by rw [r90 6 (by decide), r83 6 (by decide), r80 6 (by decide)]; exact c1
  have l90 : mI M90 (q + 1) 3 = mI M (q + 1) 3 := by rw [r90 3 (by decide), r83 3 (by decide), r80 3 (by decide)]
  have F90 : FT M90 (q + 1) (fst9 ft fS) := hFT.same l90 (by rw [r90 4 (by decide), r83 4 (by decide), r80 4 (by decide)])
  have sc90 : mI M (q + 1) 3 = 0 → scI M90 O P V F ns S0 s9 := fun y => (sc y).cg (fun i _ => ⟨by rw [b90 O nO1, b83 O nO1, b80 O nO1], by rw [b90 P nP1, b83 P nP1, b80 P nP1]⟩)
  have n5 : no34 W k0 (k + 4) := (n4.sc (by rw [(wt80.is (y := 38) a2 (by decide) (by decide)).mp e38]; decide)).sc (by rw [(wt83.is (y := 23) an83 (by decide) (by decide)).mp e23]; decide)
  clear x80 g80 r80 b80 d80 a80 f80 f83 r83 b83 r90 b90 x83 x90 h80 sc a1 p1 d1 c1 f1 m83 m90 wt80 wt83 wt hFT hR rc3
  rw [h90.1.2.1.2.1]
  refine ⟨h90.1.2.1.1, h90.1.1.2.1.1, (x_RR_kindOf h90.1.1 h90.2.1.2.2.1.nk hw.1 A90).mono (fun x98 M97 kk => ?_)⟩
  obtain ⟨e97, ⟨x980, x981⟩, x982⟩ := kk
  subst e97
  have x982 : Hid ((nmn M97 (q + 1) T B D c (k + 1) ∧ x98 = 0) ∨ ∃ i : Nat, fm M97 (q + 1) T B D c (k + 1) i ∧ x98 = if mI M97 (q + 1 + 9) i = 0 then 1 else 2) := x982
  have hw97 : ∀ i, i < c → ∃ v : Nat, mI M97 (q + 1 + 6) i = v ∧ v < n ∧ mI M97 A v = 2 := fun i hi => (h90.2.1.2.2.1.2.2 i hi).1
  have k01 : ∀ i, i < c → mI M97 (q + 1 + 9) i = 0 ∨ mI M97 (q + 1 + 9) i = 1 := fun i hi => (h90.2.1.2.2.1.2.2 i hi).2.2
  obtain ⟨E, Cf, uq, -, ec⟩ := uq_ex (p := p) (nms := nms) (c := c) wt90 hw97 c90
  have ec : CT M97 (q + 1) p nms → nms.length = c → E = E9 sm nms 0 := fun ct hl => (ec ct hl).1
  refine ⟨i32s (by omega) (by omega), o90, h90.1.1.2.1.1, (x_tx_rule (u := (W, E, pl, Cf, (k + 4, fst9 ft fS), ([37, 75, 60, 57, 34, 50], 6), ([50], 0))) (d0 := 1) (i32s (by omega) (by omega)) (i32s (by omega) (by omega)) h90 a90 (by omega) p90 (by omega) (by omega) d90 (by omega) h90.2.1.2.2.1.nk (uq _) rfl F90 (by rw [d90]; rfl) ⟨fun y => absurd y (by first | decide | simp), fun _ => rfl⟩ hz37 rc4).mono (fun x102 M101 kk => ?_)⟩
  obtain ⟨i102, o101, ⟨h101, x101, ⟨c101, -⟩, k101⟩, a9, ea9, rv⟩ := kk
  have f101 : txF M0 q p O P S0 M101 := f90.trans (x101.less p2)
  refine ⟨i102, o101, fun y => ?_, fun y => ?_⟩
  · obtain ⟨-, u⟩ := k101.resolve_right (fun u => by rw [y] at u; exact absurd u.1 (by first | decide | simp))
    refine ⟨⟨f101, Or.inl ⟨rfl, h101, u⟩⟩, a9, ea9, Or.inl ⟨rfl, ?_⟩⟩
    rcases rv with ⟨-, rv⟩ | ⟨rv, -⟩
    · exact rv
    · exact absurd y (by rw [rv]; decide)
  obtain ⟨-, e, H1, a', u1, u2, u3, u4, u5, u6, u7, u8, u9, u10⟩ := k101.resolve_left (fun u => y u.1)
  clear k101
  have ea' : a' = a9 := by
    rw [u6] at ea9
    clear rv nx sc90 u1
    omega
  obtain ⟨L9, g1, g2, g3, g4, g5, g6, g7⟩ : rlD (W, E, pl, Cf, (k + 4, fst9 ft fS), ([37, 75, 60, 57, 34, 50], 6), ([50], 0)) (q + 1) p O P s9 a9 _ M101 := (rv.resolve_left (fun u => y u.1)).2
  clear rv
  subst ea'
  have g2 : Eo W 6 (k + 4) a' := g2
  have g7 : Rc W [50] 0 [37, 75, 60, 57, 34, 50] a' := g7
  have g4 : FT M101 (q + 1) (fst9 (fst9 (fst9 ft fS) (fl W E pl 0 (k + 4) a')) (kft (x98 = 0 ∨ kdq W E 0 (k + 4) a' = (if x98 = 2 then 1 else 0)) (pl (k + 4)))) := g4
  obtain ⟨vr, hvr⟩ : ∃ vr, vr = fst9 (fl W E pl 0 (k + 4) a') (kft (x98 = 0 ∨ kdq W E 0 (k + 4) a' = (if x98 = 2 then 1 else 0)) (pl (k + 4))) := ⟨_, rfl⟩
  rw [fst9_as, fst9_as, ← hvr] at g4
  have vr9 : CT M0 (q + 1) p nms → nms.length = c → ∀ e, fnd9 sm nms (k + 1) = some e → vr = rf9 W pl sm nms 0 e.2.2.1 (k + 4) a' := fun ct hl e fe => by
    have ct9 := ct.tx f90.2
    have eE := ec ct9 hl
    rcases ct9.fnd wt90 (by rw [hl]; exact hw97) hw.1 w1 with ⟨-, z2⟩ | ⟨j, e', z1, z2, z3⟩
    · rw [fe] at z2
      exact absurd z2 (by simp)
    · rw [fe] at z3
      have ee : e = e' := Option.some.inj z3
      subst ee
      rw [hl] at z1
      have xe : x98 = if e.2.2.1 = 0 then 1 else 2 := by
        rcases x982 with v | ⟨j', v1, v2⟩
        · exact absurd z1.2.1 (v.1 j z1.1)
        · rw [← fm_un z1 v1, (ct9.2 j e z2).2.2.2.1] at v2
          exact v2
      have e01 : e.2.2.1 = 0 ∨ e.2.2.1 = 1 := by
        rw [← (ct9.2 j e z2).2.2.2.1]
        exact k01 j z1.1
      rw [hvr, propext (kft_kd x98 e01 xe), eE]
      rfl
  have wt101 : WTq M101 T A B D n W pl nq sm := wt90.fi h90.1 x101.1
  clear g5 g1 g3 g6 ec uq x982 hw97 k01 hvr
  rw [h101.1.2.1.2.1]
  refine ⟨h101.1.2.1.1, h101.1.1.2.1.1, (x_tx_accept (x := 38) (i32s (by omega) (by omega)) (by omega) h101 u6 u8).mono (fun x109 M108 kk => ?_)⟩
  obtain ⟨i109, o108, -, h108, x108, k108, r108, b108, m108⟩ := kk
  refine ⟨i109, o108, fun y => ?_, fun y => ?_⟩
  · rw [(k108.resolve_left (fun u => by rw [y] at u; exact absurd u.1 (by first | decide | simp))).2]
    exact ⟨⟨f101, Or.inl ⟨rfl, h101, a', u6, u8⟩⟩, a', u6, Or.inl ⟨rfl, rf_t g7 (fun u => m108 y ((wt101.is u8 (by decide) (by decide)).mpr u)) (by decide)⟩⟩
  obtain ⟨-, e37, a108, an108⟩ := k108.resolve_right (fun u => y u.1)
  clear k108
  have w37 : W a' = 37 := (wt101.is u8 (by decide) (by decide)).mp e37
  have n6 : no34 W k0 (a' + 1) := (n5.eo g2).sc (by rw [w37]; decide)
  have rc6 : Rc W [50] 0 [60, 57, 34, 50] (a' + 1) := (rc_t g7 w37 (by decide)).trans (Rc.zero mst_75)
  have wt108 : WTq M108 T A B D n W pl nq sm := wt101.fi h101.1 x108.1
  have d108 : mI M108 (q + 1) 5 = 1 := by rw [r108 5 (by decide), u10]; exact d90
  rw [h108.1.2.1.2.1, d108]
  refine ⟨h108.1.2.1.1, h108.1.1.2.1.1, ⟨by decide, by decide⟩, fun M116 e116 => ?_⟩
  obtain ⟨h116, x116, g116⟩ := tx_ui h108 ⟨by decide, by decide⟩ e116 (Or.inr (Or.inr (Or.inr (Or.inl ⟨rfl, Or.inr (Or.inl rfl)⟩))))
  have b116 : ∀ b, b ≠ q + 1 → mI M116 b = mI M101 b := fun b hb => by
    rw [← b108 b hb]
    funext i
    rw [g116, if_neg (fun u => hb u.1)]
  have r116 : ∀ i, i ≠ 5 → i ≠ 2 → mI M116 (q + 1) i = mI M101 (q + 1) i := fun i hi hj => by rw [g116, if_neg (fun u => hi u.2), r108 i hj]
  have a116 : mI M116 (q + 1) 2 = ((a' + 1 : Nat) : Int) := by rw [g116, if_neg (fun u => absurd u.2 (by first | decide | simp))]; exact a108
  have d116 : mI M116 (q + 1) 5 = 0 := by rw [g116, if_pos ⟨rfl, rfl⟩]; rfl
  have xx : txF M101 q p O P S0 M116 := by
    have u := x108.trans x116
    exact ⟨u.1, u.2.1, u.2.2.1, u.2.2.2.1, u.2.2.2.2.1, u.2.2.2.2.2.1, fun i _ => ⟨by rw [b116 O nO1], by rw [b116 P nP1]⟩⟩
  have f116 := f101.trans xx
  have wt116 : WTq M116 T A B D n W pl nq sm := wt108.fi h108.1 x116.1
  have p116 : mI M116 p 2 = ((e : Nat) : Int) := by rw [b116 p np1]; exact u5
  rw [h116.1.2.1.2.2.2.1]
  have i43 : i32 ((l4 * 16) + (if l6 < 0 then 0 else l6)) := by
    exact i43_ b4 h6 (Nat.le_trans hV (by decide))
  refine ⟨h116.1.1.2.2.2.2.1.1, (s_tx_add (i32s (by omega) (by omega)) i43 h116 p116 (by omega) (by omega)).mono (fun v M119 kk => ?_)⟩
  obtain ⟨v1, v2, v3, v4, v5, v6, v7, v8⟩ := kk
  have e1 := v8 (q + 1) np1.symm nO1.symm nP1.symm
  have f119 := f116.trans (v4.less (show S0 ≤ e by omega))
  have wt119 : WTq M119 T A B D n W pl nq sm := wt116.fi h116.1 v4.1
  rw [v3.1.2.1.2.1]
  refine ⟨v1, v2, v3.1.2.1.1, v3.1.1.2.1.1, (x_tx_accept (x := 30) (a := a' + 1) (i32s (by omega) (by omega)) (by omega) v3 (by rw [e1]; exact a116) an108).mono (fun x125 M124 kk => ?_)⟩
  obtain ⟨i125, o124, -, h124, x124, k124, r124, b124, m124⟩ := kk
  have f124 : txF M0 q p O P S0 M124 := f119.trans ⟨x124.1, x124.2.1, x124.2.2.1, x124.2.2.2.1, x124.2.2.2.2.1, x124.2.2.2.2.2.1, fun i _ => ⟨by rw [b124 O nO1], by rw [b124 P nP1]⟩⟩
  have sc124 : mI M124 (q + 1) 3 = 0 → scI M124 O P V F ns S0 (e + 1) := fun y => by
    rw [r124 3 (by decide), e1, r116 3 (by decide) (by decide)] at y
    have y90 : mI M (q + 1) 3 = 0 := by
      rw [← l90]
      exact Classical.byContradiction (fun u => x101.2.2.1 u y)
    have y6 : 0 ≤ l6 ∧ l6 < V := h6.resolve_left (fun u => hf u y90)
    have s1 : scI M101 O P V F ns S0 s9 := (sc90 y90).cg (fun i hi => x101.2.2.2.2.2.2 i hi)
    refine s1.set (x := (l4 * 16) + (if l6 < 0 then 0 else l6)) u1 u2 u3 u4 (fun i => ?_) (fun i => ?_) ?_
    · rw [b124 O nO1, v6, b116 O nO1]
    · rw [b124 P nP1, v7, b116 P nP1]
    · rw [if_neg (by omega)]
      clear h1 h83 h90 h101 h108 h116 nx sc90 u1 s1
      exact ⟨by omega, by omega, by omega⟩
  have p124 : mI M124 p 2 = ((e + 1 : Nat) : Int) := by rw [b124 p np1]; exact v5
  have d124 : mI M124 (q + 1) 5 = 0 := by rw [r124 5 (by decide), e1]; exact d116
  have c124 : mI M124 (q + 1) 6 = 0 := by rw [r124 6 (by decide), e1, r116 6 (by decide) (by decide), c101]; exact c90
  have wt124 : WTq M124 T A B D n W pl nq sm := wt119.fi v3.1 x124.1
  have F124 : FT M124 (q + 1) (fst9 ft (fst9 fS vr)) := g4.same (by rw [r124 3 (by decide), e1, r116 3 (by decide) (by decide)]) (by rw [r124 4 (by decide), e1, r116 4 (by decide) (by decide)])
  have an1 : a' < n := by omega
  obtain ⟨nx1, nx2⟩ := sn.next hik hNn (show k < n by omega) tn0 hV g2 w37 an1 vr9
  have le1 : i + 1 ≤ a' + 1 + 1 := by
    clear nx sc90 u1 nx1 nx2
    omega
  refine ⟨i125, o124, ?_⟩
  rw [e73]
  rw [e73] at i73
  rcases k124 with ⟨ex, e30, a124, an124⟩ | ⟨ex, e2⟩
  · have w29 : W (a' + 1) = 29 := (wt119.is an108 (by decide) (by decide)).mp e30
    exact nx M124 x125 _ (a' + 1 + 1) (e + 1) i125 i73 ⟨h124, f124, a124, an124, p124, by omega, by omega, d124, c124, sc124, hL⟩ ⟨wt124, fst9 fS vr, F124, Or.inl ⟨by rw [ex]; decide, le1, rc6.trans (rc60m w29), nx1 w29, n6.sc (by rw [w29]; decide)⟩⟩
  · have w29 : W (a' + 1) ≠ 29 := fun u => m124 ex ((wt119.is an108 (by decide) (by decide)).mpr u)
    exact nx M124 x125 _ (a' + 1) (e + 1) i125 i73 ⟨h124, f124, by rw [e2, e1]; exact a116, an108, p124, by omega, by omega, d124, c124, sc124, hL⟩ ⟨wt124, fst9 fS vr, F124, Or.inr ⟨ex, rc6.trans (rc60 w29), nx2 w29, n6⟩⟩
end TXQ
end
