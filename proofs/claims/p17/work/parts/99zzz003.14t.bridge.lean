theorem ka_1_40 : (Jvm.Cond.classLink "ChanceArenaLaw" (8 : Nat) "ChanceArena") ∈ lw_R := zR (zk_1 _ (List.mem_of_getElem? (i := 40) rfl)) rfl
theorem ka_1_41 : (Jvm.Cond.instantiable "ChanceArena" (19 : Nat)) ∈ lw_R := zR (zk_1 _ (List.mem_of_getElem? (i := 41) rfl)) rfl
theorem ka_1_42 : (Jvm.Cond.methodLink "ChanceArenaLaw" (43 : Nat) ({ cls := "ChanceArena", name := "<init>", desc := "()V" } : Jvm.MethodName)) ∈ lw_R := zR (zk_1 _ (List.mem_of_getElem? (i := 42) rfl)) rfl
theorem ka_1_43 : (Jvm.Cond.instanceMethod ({ cls := "ChanceArena", name := "<init>", desc := "()V" } : Jvm.MethodName)) ∈ lw_R := zR (zk_1 _ (List.mem_of_getElem? (i := 43) rfl)) rfl
theorem ka_1_44 : (Jvm.Cond.code ({ cls := "ChanceArena", name := "<init>", desc := "()V" } : Jvm.MethodName) prog_1_method_1_code (1 : Nat) (Option.none : Option Jvm.ClassFile.FieldType)) ∈ lw_R := zR (zk_1 _ (List.mem_of_getElem? (i := 44) rfl)) rfl
theorem ka_8_199 : (Jvm.Cond.classLink "ChanceArenaLaw" (44 : Nat) "ChanceArenaModel") ∈ lw_R := zR (zk_8 _ (List.mem_of_getElem? (i := 234) rfl)) rfl
theorem ka_8_200 : (Jvm.Cond.instantiable "ChanceArenaModel" (49 : Nat)) ∈ lw_R := zR (zk_8 _ (List.mem_of_getElem? (i := 235) rfl)) rfl
theorem ka_8_201 : (Jvm.Cond.methodLink "ChanceArenaLaw" (46 : Nat) ({ cls := "ChanceArenaModel", name := "<init>", desc := "()V" } : Jvm.MethodName)) ∈ lw_R := zR (zk_8 _ (List.mem_of_getElem? (i := 236) rfl)) rfl
theorem ka_8_202 : (Jvm.Cond.instanceMethod ({ cls := "ChanceArenaModel", name := "<init>", desc := "()V" } : Jvm.MethodName)) ∈ lw_R := zR (zk_8 _ (List.mem_of_getElem? (i := 237) rfl)) rfl
theorem ka_8_203 : (Jvm.Cond.code ({ cls := "ChanceArenaModel", name := "<init>", desc := "()V" } : Jvm.MethodName) prog_15_method_1_code (1 : Nat) (Option.none : Option Jvm.ClassFile.FieldType)) ∈ lw_R := zR (zk_8 _ (List.mem_of_getElem? (i := 238) rfl)) rfl
theorem zAp {s : State} {args : Array Value} {ty : FieldType} (h : (Cond.arrayClass ty).before args s = true) (hpr : ∀ C, ty ≠ .object C) : ∃ cA : ClassId, ArrOfT s cA ty ∧ va_RA s cA ty := by
  obtain ⟨cA, kA, comp, h1, h2, h3⟩ := Cond.arrayClass_spec h
  refine ⟨cA, fun n z => ⟨fun k h => (by cases h), kA, h2, comp, h3⟩, ?_⟩
  cases ty with
  | object C => exact absurd rfl (hpr C)
  | _ => exact h1
theorem zAo {s : State} {args : Array Value} {C : String} (h : (Cond.arrayOver (.object C)).before args s = true) : ∃ cA : ClassId, ArrOfT s cA (.object C) ∧ va_RA s cA (.object C) := by
  obtain ⟨comp, cA, kA, f4, -, f2, f3, f1⟩ := Cond.arrayOver_spec h
  exact ⟨cA, fun n z => ⟨fun k h => (by cases h), kA, f2, comp, f3⟩, kA, comp, f2, f3, f4, f1⟩
theorem law_K {s : State} {args : Array Value} (hg : ∀ w ∈ lw_R, w.before args s = true) : ∃ (D : va_G) (tA : Nat → ClassId), va_K D vwCl (zT tA) s := by
  have hc : ∀ k : Nat, ∃ (c : ClassId) (i : Nat → Nat), ∀ q : vw_C, vwCl[k]? = some q → u_Kn s q.1 q.2.1 q.2.2 c i := by
    intro k
    match k with
    | 0 =>
      obtain ⟨c, i, h⟩ := u_known (C := R_CA) (T := T_CA) (N := 19) (n := 19) hg i_CA (hg _ ka_1_41)
      exact ⟨c, i, fun q hq => by cases hq; exact h⟩
    | 1 =>
      obtain ⟨c, i, h⟩ := u_known (C := R_Wo) (T := T_Wo) (N := 6) (n := 6) hg i_Wo (hg _ k1_49)
      exact ⟨c, i, fun q hq => by cases hq; exact h⟩
    | 2 =>
      obtain ⟨c, i, h⟩ := u_known (C := R_TR) (T := T_TR) (N := 9) (n := 9) hg i_TR (hg _ k1_84)
      exact ⟨c, i, fun q hq => by cases hq; exact h⟩
    | 3 =>
      obtain ⟨c, i, h⟩ := u_known (C := R_RR) (T := T_RR) (N := 20) (n := 20) hg i_RR (hg _ k1_90)
      exact ⟨c, i, fun q hq => by cases hq; exact h⟩
    | 4 =>
      obtain ⟨c, i, h⟩ := u_known (C := R_Ma) (T := T_Ma) (N := 16) (n := 16) hg i_Ma (hg _ k1_164)
      exact ⟨c, i, fun q hq => by cases hq; exact h⟩
    | 5 =>
      obtain ⟨c, i, h⟩ := u_known (C := R_Pr) (T := T_Pr) (N := 20) (n := 20) hg i_Pr (hg _ k2_18)
      exact ⟨c, i, fun q hq => by cases hq; exact h⟩
    | 6 =>
      obtain ⟨c, i, h⟩ := u_known (C := R_Ga) (T := T_Ga) (N := 19) (n := 19) hg i_Ga (hg _ k2_127)
      exact ⟨c, i, fun q hq => by cases hq; exact h⟩
    | 7 =>
      obtain ⟨c, i, h⟩ := u_known (C := R_So) (T := T_So) (N := 18) (n := 18) hg i_So (hg _ k2_222)
      exact ⟨c, i, fun q hq => by cases hq; exact h⟩
    | 8 =>
      obtain ⟨c, i, h⟩ := u_known (C := R_Sc) (T := T_Sc) (N := 11) (n := 11) hg i_Sc (hg _ k2_228)
      exact ⟨c, i, fun q hq => by cases hq; exact h⟩
    | 9 =>
      obtain ⟨c, i, h⟩ := u_known (C := R_Na) (T := T_Na) (N := 2) (n := 2) hg i_Na (hg _ k2_234)
      exact ⟨c, i, fun q hq => by cases hq; exact h⟩
    | 10 =>
      obtain ⟨c, i, h⟩ := u_known (C := R_Fr) (T := T_Fr) (N := 3) (n := 3) hg i_Fr (hg _ k3_11)
      exact ⟨c, i, fun q hq => by cases hq; exact h⟩
    | 11 =>
      obtain ⟨c, i, h⟩ := u_known (C := R_Re) (T := T_Re) (N := 7) (n := 7) hg i_Re (hg _ k3_71)
      exact ⟨c, i, fun q hq => by cases hq; exact h⟩
    | 12 =>
      obtain ⟨c, i, h⟩ := u_known (C := R_Fs) (T := T_Fs) (N := 2) (n := 2) hg i_Fs (hg _ k3_164)
      exact ⟨c, i, fun q hq => by cases hq; exact h⟩
    | 13 =>
      obtain ⟨c, i, h⟩ := u_known (C := R_MM) (T := T_MM) (N := 49) (n := 49) hg i_MM (hg _ ka_8_200)
      exact ⟨c, i, fun q hq => by cases hq; exact h⟩
    | 14 =>
      obtain ⟨c, i, h⟩ := u_known (C := R_MN) (T := T_MN) (N := 2) (n := 2) hg i_MN (hg _ k9_1)
      exact ⟨c, i, fun q hq => by cases hq; exact h⟩
    | 15 =>
      obtain ⟨c, i, h⟩ := u_known (C := R_MG) (T := T_MG) (N := 30) (n := 30) hg i_MG (hg _ k9_17)
      exact ⟨c, i, fun q hq => by cases hq; exact h⟩
    | 16 =>
      obtain ⟨c, i, h⟩ := u_known (C := R_MS) (T := T_MS) (N := 32) (n := 32) hg i_MS (hg _ k9_146)
      exact ⟨c, i, fun q hq => by cases hq; exact h⟩
    | 17 =>
      obtain ⟨c, i, h⟩ := u_known (C := R_MU) (T := T_MU) (N := 7) (n := 7) hg i_MU (hg _ k9_152)
      exact ⟨c, i, fun q hq => by cases hq; exact h⟩
    | 18 =>
      obtain ⟨c, i, h⟩ := u_known (C := R_MF) (T := T_MF) (N := 3) (n := 3) hg i_MF (hg _ k9_158)
      exact ⟨c, i, fun q hq => by cases hq; exact h⟩
    | 19 =>
      obtain ⟨c, i, h⟩ := u_known (C := R_MW) (T := T_MW) (N := 2) (n := 2) hg i_MW (hg _ k9_164)
      exact ⟨c, i, fun q hq => by cases hq; exact h⟩
    | k + 20 =>
      obtain ⟨c, i, -⟩ := u_known (C := R_CA) (T := T_CA) (N := 19) (n := 19) hg i_CA (hg _ ka_1_41)
      exact ⟨c, i, fun q hq => by simp [vwCl] at hq⟩
  obtain ⟨t0, h0⟩ := zAp (hg _ k1_82) (fun _ h => by cases h)
  obtain ⟨t1, h1⟩ := zAp (hg _ k1_162) (fun _ h => by cases h)
  obtain ⟨t2, h2⟩ := zAp (hg _ k1_81) (fun _ h => by cases h)
  obtain ⟨t3, h3⟩ := zAp (hg _ k3_35) (fun _ h => by cases h)
  obtain ⟨t4, h4⟩ := zAo (hg _ k3_77)
  obtain ⟨t5, h5⟩ := zAo (hg _ k3_170)
  obtain ⟨t6, h6⟩ := zAo (hg _ k9_222)
  refine ⟨(fun k => Classical.choose (hc k), fun k => Classical.choose (Classical.choose_spec (hc k))), fun k => match k with | 0 => t0 | 1 => t1 | 2 => t2 | 3 => t3 | 4 => t4 | 5 => t5 | _ => t6, fun k q hq => Classical.choose_spec (Classical.choose_spec (hc k)) q hq, ?_⟩
  intro k q hq
  match k, hq with
  | 0, hq => cases hq; exact h0
  | 1, hq => cases hq; exact h1
  | 2, hq => cases hq; exact h2
  | 3, hq => cases hq; exact h3
  | 4, hq => cases hq; exact h4
  | 5, hq => cases hq; exact h5
  | 6, hq => cases hq; exact h6
  | k + 7, hq => simp [zT] at hq
section LST
variable {G : mG} {d b : Nat} {M : mM} {Q : Option mV → mM → Prop}
/-- the law's first rows: both objects are made -/
theorem la_start (h : Cv G y_CA_init d [vr (mZ M)] (mNew M 1 0 19) (fun M2 => Cv G y_MM_init d [vr (mZ M2)] (mNew M2 14 0 49) (fun M4 => mWm G y_La_law (d + 1) 23 (LL b (mZ M) (mZ M2) (mZ M4) 0) [] (mNew M4 33 1 1) Q))) : mWm G y_La_law (d + 1) 0 [vo b, vd, vd, vd, vd, vd, vd] [] M Q := by
  refine wm_new (c := 0) (T := T_CA) (t := t_CA) rfl rfl i_CA o_CA ka_1_40 ka_1_41 k1_1 (by decide) d_La_law_0 ?_
  refine wm_dup d_La_law_3 rfl ?_
  refine wm_callI (y2 := y_CA_init) (c := 0) (n := 0) (As := []) (st := [vr (mZ M)]) rfl rfl ka_1_42 ka_1_43 rfl rfl k1_1 ka_1_44 ⟨by decide, by decide, by decide +kernel⟩ (by decide) rfl rfl (Nat.le_of_ble_eq_true rfl) d_La_law_4 (by rw [mK_New, if_pos rfl]) ?_
  refine mCm.mono h (fun r9 M2 q => ?_)
  obtain ⟨rfl, h⟩ := q
  refine wm_astore_n (L' := [vo b, vr (mZ M), vd, vd, vd, vd, vd]) d_La_law_7 rfl (by decide) rfl ?_
  refine wm_new (c := 13) (T := T_MM) (t := t_MM) rfl rfl i_MM o_MM ka_8_199 ka_8_200 k1_14 (by decide) d_La_law_8 ?_
  refine wm_dup d_La_law_11 rfl ?_
  refine wm_callI (y2 := y_MM_init) (c := 13) (n := 0) (As := []) (st := [vr (mZ M2)]) rfl rfl ka_8_201 ka_8_202 rfl rfl k1_14 ka_8_203 ⟨by decide, by decide, by decide +kernel⟩ (by decide) rfl rfl (Nat.le_of_ble_eq_true rfl) d_La_law_12 (by rw [mK_New, if_pos rfl]) ?_
  refine mCm.mono h (fun r9 M4 q => ?_)
  obtain ⟨rfl, h⟩ := q
  refine wm_astore_n (L' := [vo b, vr (mZ M), vr (mZ M2), vd, vd, vd, vd]) d_La_law_15 rfl (by decide) rfl ?_
  refine wm_iconst d_La_law_16 ?_
  refine wm_newarr 3 (atype := .long) (ty := .long) rfl rfl (fun _ => rfl) (fun C u => by cases u) rfl (by decide) k3_35 ⟨by decide, by decide⟩ d_La_law_17 ?_
  refine wm_astore_n (L' := [vo b, vr (mZ M), vr (mZ M2), vr (mZ M4), vd, vd, vd]) d_La_law_19 rfl (by decide) rfl ?_
  refine wm_iconst d_La_law_20 ?_
  exact wm_istore (L' := LL b (mZ M) (mZ M2) (mZ M4) 0) d_La_law_21 (by decide) rfl h
end LST
/-! The claim out of one walk of the law's body in the flat machine. -/
def lw_P (b : Addr) (xs : List Int32) (args : Array Value) (s : State) : Prop := args = #[.ref b] ∧ s.IntsAt b xs ∧ xs.length ≤ 3072 ∧ (Jvm.Cond.and given_1 narrow_1).before args s = true
def lw_Q (_ : Array Value) (s : State) (o : Outcome) (t : State) : Prop := o = .returned (some (.int 1)) ∧ Framed s o t [] 601024 7293034
/-- the heap at the law's start: the script alone is looked at -/
def m0 (b N z : Nat) (xs : Int → Int) : mM := (fun x => if x = b then 40 else 0, fun x => if x = b then N else 0, fun x j => if x = b ∧ j < N then xs j else 0, fun _ _ => 0, fun _ _ => 0, z, 0)
/-- what is owed: the law answers 1 and keeps to its room -/
def lawOk : Prop := ∀ (G : mG) (b N : Nat) (xs : Int → Int), 0 < gB G → b < gB G → N ≤ 3072 → (∀ j, i32 (xs j)) → LT G → gPr G → TH G → va_Nc "java/lang/IllegalStateException" "java/lang/IllegalArgumentException" (gS G) → mWm G y_La_law 40 0 [vo b, vd, vd, vd, vd, vd, vd] [] (m0 b N (gB G) xs) (fun r M' => r = some (vi 1) ∧ mZ M' ≤ gB G + 601024 ∧ mS M' ≤ 7293034)
theorem m0_rep {G : mG} {b N : Nat} {xs : Int → Int} (h0 : 0 < gB G) (hP : gPr G) (hz : gB G = (gS G).heap.size) (hb : b < gB G) (hN : N ≤ 3072) (hx : ∀ j, i32 (xs j)) {cell : Cell} (h1 : (gS G).heap[b]? = some cell) (h2 : (gS G).isArrayOf cell .int) (h3 : cell.vm ≠ .unknown) (h4 : cell.slots.size = N) (h5 : ∀ j : Nat, j < N → cell.slots[j]? = some (mcv (vi (xs j)))) : mRep G (m0 b N (gB G) xs) (gS G).heap := by
  have hk : ∀ x, mK (m0 b N (gB G) xs) x = if x = b then 40 else 0 := fun _ => rfl
  have hi : ∀ x j, mI (m0 b N (gB G) xs) x j = if x = b ∧ j < N then xs j else 0 := fun _ _ => rfl
  refine ⟨hz.symm, ⟨h0, hP⟩, Nat.le_refl _, fun a j => ⟨?_, (show i64 0 from ⟨by decide, by decide⟩)⟩, fun q _ => rfl, fun a ha => ?_, fun a => ⟨fun c r t hK hc ht => ?_, fun t ty hK hty => ?_, fun hK => ?_⟩⟩
  · rw [hi]
    split
    · exact hx _
    · exact i32_0
  · rw [hk, if_neg (by have : gB G ≤ a := ha; omega)]
  · rw [hk] at hK
    split at hK
    · have : c = 39 := by omega
      subst this
      cases hc
    · omega
  · rw [hk] at hK
    split at hK
    · have : t = 10 := by omega
      subst this
      cases hty
    · omega
  · rw [hk] at hK
    split at hK
    · rename_i e
      subst e
      have hn : mN (m0 a N (gB G) xs) a = N := if_pos rfl
      refine ⟨hb, by rw [hn]; omega, cell, h1, h2, h3, by rw [hn]; exact h4, fun j hj => ?_⟩
      rw [hn] at hj
      rw [hi, if_pos ⟨rfl, hj⟩]
      exact h5 j hj
    · cases hK
theorem lw_pre_spec {args : Array Value} {s : State} (h : (Jvm.Cond.and given_1 narrow_1).before args s = true) (hr : rest_1_c.before args s = true) : ∃ (b : Addr) (xs : List Int32), lw_P b xs args s := by
  have hs := flat_of_before _ h
  have hq := flat_of_before _ hr
  have hc : (Cond.count 1).before args s = true := hs _ (by decide +kernel)
  have harr : (Cond.arrayOf (.arg 0) .int).before args s = true := hs _ (by decide +kernel)
  have hle : (Cond.le (.length (.arg 0)) (.int 3072)).before args s = true := hs _ (by decide +kernel)
  have hlen : (Cond.isInt (.length (.arg 0))).before args s = true := hq _ (by decide +kernel)
  have hall : (Cond.all (.arg 0) (.isInt (.elem (.arg 0) (.index 0)))).before args s = true := hq _ (by decide +kernel)
  obtain ⟨b, xs, hb, hx⟩ := State.ints_of_pre rfl harr hlen hall
  have hsm : xs.length < 2 ^ 31 := hx.choose_spec.2.2.2
  have hev : (Term.length (.arg 0)).eval args s none [] s = some (.int xs.length.toInt32) := hx.length_eval hb
  have hv := Cond.le_ints hev (show (Term.int 3072).eval args s none [] s = some (.int 3072) from rfl)
  have hd : xs.length.toInt32 ≤ 3072 := by
    simpa [Cond.before, Cond.holds, hv] using hle
  have hN : xs.length ≤ 3072 := (Int32.ofNat_le_ofNat hsm (by decide)).mp (show Int32.ofNat xs.length ≤ Int32.ofNat 3072 from hd)
  exact ⟨b, xs, Cond.one_arg hc (show args[0]? = some (.ref b) from hb), hx, hN, h⟩
set_option maxHeartbeats 4000000 in
theorem lw_walk (hlaw : lawOk) (l : Launch) (htr : l.stackTraces = false) (b : Addr) (xs : List Int32) : MetFree l x (headSpec (Jvm.Cond.code x code maxLocals ret :: tables_1) room_1) (lw_P b xs) (fun _ _ _ _ _ => True) lw_Q := by
  refine MetFree.of_bodyS (code := code) (maxLocals := maxLocals) (ret := ret) (by decide) ?_ ?_
  · intro args s m h hn
    obtain ⟨meth, c, h1, h2, h3, h4, h5, h6, -, -⟩ := Cond.code_spec hn (atoms_spec (ws := Jvm.Cond.code x code maxLocals ret :: tables_1) h _ List.mem_cons_self)
    exact ⟨meth, c, h1, h2, h3, h4, h5, h6⟩
  · intro p e s m args below meth c s₁ B hml0 hP _
    obtain ⟨rfl, hx, hbd, hgv⟩ := hP
    obtain ⟨scr, harrAt, hlist, hof, hsmall⟩ := hx
    obtain ⟨hcb, hkn, -, -⟩ := State.arrayAt?_spec harrAt
    have hts0 : ∀ c ∈ (Jvm.Cond.code x code maxLocals ret :: tables_1), c.before #[Value.ref b] s = true := atoms_spec (ws := Jvm.Cond.code x code maxLocals ret :: tables_1) B.pre
    have hts : ∀ w ∈ lw_tbl, w.before #[Value.ref b] s = true := k2_hts_sels lw_privs (fun w hw => hts0 w (List.mem_cons_of_mem _ hw)) lw_privs_ok
    have hml : c.maxLocals = 7 := B.maxLocals_eq (hts0 _ List.mem_cons_self)
    have X₀ : Stand p l e room_1 s m #[Value.ref b] below meth c s₁ [] 0 0 := Stand.of_body B
    have hh0 : s₁.heap = s.heap := by rw [B.state]; rfl
    have hsz : scr.slots.size = xs.length := by rw [← Array.length_toList, hlist, List.length_map]
    have hbl : b < s.heap.size := (Array.getElem?_eq_some_iff.mp hcb).1
    have hh : zH s := zH.of hts
    have hg := hh.use #[Value.ref b]
    obtain ⟨D, tA, hK⟩ := law_K hg
    have hs := flat_of_before _ hgv
    have hNc : va_Nc "java/lang/IllegalStateException" "java/lang/IllegalArgumentException" s := va_Nc.of (hs _ (by decide +kernel))
    obtain ⟨G, eG⟩ : ∃ G : mG, G = (l, D, tA, s, s.heap.size) := ⟨_, rfl⟩
    have gl : gL G = l := by rw [eG]; rfl
    have gd : gD G = D := by rw [eG]; rfl
    have ga : gA G = tA := by rw [eG]; rfl
    have gs : gS G = s := by rw [eG]; rfl
    have gb : gB G = s.heap.size := by rw [eG]; rfl
    obtain ⟨hLT, hPr, hTH⟩ := st_all (G := G) (args := #[Value.ref b]) (by rw [gb, gs]) (by rw [gl]; exact htr) (by rw [gs]; exact hts) (by rw [gs]; exact hgv)
    let ys : Int → Int := fun j => (xs.getD j.toNat 0).toInt
    have hys : ∀ j, i32 (ys j) := fun j => ⟨Int32.minValue_le_toInt _, by have := Int32.toInt_lt (xs.getD j.toNat 0); show (xs.getD j.toNat 0).toInt < _; omega⟩
    have h0 : 0 < gB G := by rw [gb]; exact Nat.lt_of_le_of_lt (Nat.zero_le b) hbl
    have hrep : mRep G (m0 b xs.length (gB G) ys) (gS G).heap := by
      refine m0_rep h0 hPr (by rw [gb, gs]) (by rw [gb]; exact hbl) hbd hys (by rw [gs]; exact hcb) (by rw [gs]; exact hof) hkn hsz (fun j hj => ?_)
      rw [← Array.getElem?_toList, hlist]
      show _ = some (Value.int (Int32.ofInt (xs.getD (Int.toNat (j : Int)) 0).toInt))
      rw [Int32.ofInt_toInt, Int.toNat_natCast]
      simp [hj]
    obtain ⟨r, M', ⟨⟨z1, z2⟩, hE⟩, hr, c1, c2⟩ := hlaw G b xs.length ys h0 (by rw [gb]; exact hbl) hbd hys hLT hPr hTH (by rw [gs]; exact hNc)
    subst hr
    have mz : mZ (m0 b xs.length (gB G) ys) = gB G := rfl
    have ms : mS (m0 b xs.length (gB G) ys) = 0 := rfl
    have hl := lv_entry ([.ref b]) (n := 7) (Nat.le_of_ble_eq_true rfl)
    have K : W p l e room_1 s m #[Value.ref b] below meth c s₁.heap [] 0 0 (MQ below (mQ G (some (vi 1)) M') #[Value.ref b] s (0 + (mZ M' - mZ (m0 b xs.length (gB G) ys))) (0 + (mS M' - mS (m0 b xs.length (gB G) ys))) (mOwn G)) (entryFrame m ([Value.ref b] : List Value).toArray 7) := by
      rw [hh0]
      rw [lg_entry_eq]
      generalize (lg_sl ([.ref b]) ++ List.replicate (7 - (lg_sl ([.ref b])).length) Slot.unset).toArray = ls at hl ⊢
      have hLs : mLs ls 7 [vo b, vd, vd, vd, vd, vd, vd] := by
        refine ⟨hl.1, hl.2.1, fun i v hi hv => ?_⟩
        match i, hi with
        | 0, hi => cases hi; exact hl.2.2 (0, .ref b) List.mem_cons_self
        | 1, hi => cases hi; cases hv
        | 2, hi => cases hi; cases hv
        | 3, hi => cases hi; cases hv
        | 4, hi => cases hi; cases hv
        | 5, hi => cases hi; cases hv
        | 6, hi => cases hi; cases hv
        | k + 7, hi => simp at hi
      have hA : mAt G y_La_law 40 p room_1 s m #[Value.ref b] meth c := ⟨B.exec, B.bytes, hml, B.returns, B.notSynchronized, (name_of_methodNamed B.named B.method).1, findClass_of_methodNamed B.named, by rw [gd, ga]; exact hK, hg, hh, ⟨by rw [gs]; exact Vm.Alike.refl _, fun own k tx a u => by rw [gs] at u; exact u⟩, Nat.le_of_ble_eq_true rfl, Nat.le_of_ble_eq_true rfl⟩
      have := hE p e room_1 s m #[Value.ref b] below meth c s.heap [] 0 0 ls hA (by rw [← gs]; exact hrep) (fun q h => by cases h) (by show 0 + (mZ M' - mZ _) ≤ 601024; rw [mz]; omega) (by show 0 + (mS M' - mS _) ≤ 7293034; rw [ms]; omega) hLs
      rw [gl] at this
      exact this
    obtain ⟨t, a1, o, b1, b2, ⟨b3, -⟩, L, b4, b5⟩ := K s₁ rfl X₀
    refine ⟨t, o, a1, b1, b2, b3, b4.1, b4.2.1, ?_⟩
    have fr : s.sameButNew { t with vm := s.vm } ([] ++ L) (0 + (mZ M' - mZ (m0 b xs.length (gB G) ys))) (0 + (mS M' - mS (m0 b xs.length (gB G) ys))) := b4.2.2
    exact (fr.drop_fresh (fun y hy => by have u : gB G ≤ y.base := b5 y hy; rw [gb] at u; exact u)).mono (by rw [mz]; omega) (by rw [ms]; omega)
theorem lw_comes (hlaw : lawOk) (l : Launch) (htr : l.stackTraces = false) : Comes l x (Jvm.Cond.code x code maxLocals ret :: tables_1) room_1 (fun tb e args s => Calls_1 tb e args s ∧ rest_1 tb e args s ∧ Pre_1 tb e args s)
    (fun _ _ args s o t => lw_Q args s o t) := by
  intro p e ha hc hk s m args below hf hfit hheap happ hpre
  obtain ⟨b, xs, hP⟩ := lw_pre_spec hpre.2.2 hpre.2.1
  obtain ⟨k, o, h1, h2, h3, hQ⟩ := lw_walk hlaw l htr b xs p e ha hc hk s m args below hf ((Spec.applies_iff_loose hf).mp happ).1 hP trivial
  exact ⟨k, o, h1, h2, h3, hQ⟩
theorem lw_limb (hlaw : lawOk) (L : Cond) (hL : ∀ (args : Array Value) (s t : State), L.after args s (.returned (some (.int 1))) t = true) :
    ArmFor flags0 classFile x code maxLocals ret World_1 tables_1 room_1 Calls_1 rest_1 Pre_1
      (fun tb e a s o t => postC L tb e a s o t ∧ Framed s o t (fieldLocs frame_1_writes a s ++ arrayLocs frame_1_arrays a s ++ staticLocs frame_1_statics s) 601024 7293034) := by
  intro l hfl _ _ p e ha hc hk s m args below hf hfit hheap happ hpre
  obtain ⟨k, o, h1, h2, h3, rfl, hF⟩ := lw_comes hlaw l (by unfold Launch.stackTraces; rw [hfl]; decide) p e ha hc hk s m args below hf hfit hheap happ hpre
  exact ⟨k, _, h1, h2, h3, hL args s _, hF⟩
theorem i_of (hlaw : lawOk) : Claimed_1_1 ∧ Claimed_1_2 := ⟨lw_limb hlaw limb_1_1 (fun args s t => by simp [limb_1_1, Cond.after, Cond.holds, Cond.value]), lw_limb hlaw limb_1_2 (fun args s t => Cond.after_iff.mpr (by
  first | (rw [show limb_1_2 = Cond.eq .result (.int 1) from rfl, Cond.eq_ints (x := 1) (y := 1) rfl rfl]; simp; done) | (simp [limb_1_2, Cond.value, Term.eval]; done)))⟩
