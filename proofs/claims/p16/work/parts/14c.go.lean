/-! Steps that change nothing but the place and the stack, whatever the run comes to: for methods that throw, and for methods that only read. -/
def mGo (G : mG) (y : mY) (d : Nat) (L : List mV) (M : mM) (pc : Nat) (st : List mV) (pc' : Nat) (st' : List mV) : Prop := ∀ (p : Program) (e : Env) (R : Room) (s : State) (m : MethodId) (args : Array Value) (below : List Frame) (meth : Method) (c : Code) (H : Heap) (locs : List Loc) (cells slots : Nat) (ls : Array Slot) (Qf : State → Prop), mAt G y d p R s m args meth c → mRep G M H → mLs ls y.2.2.1 L → cells ≤ R.cells → slots ≤ R.slots → W p (gL G) e R s m args below meth c H locs cells slots Qf (F0 m pc' ls (st'.map mcv)) → W p (gL G) e R s m args below meth c H locs cells slots Qf (F0 m pc ls (st.map mcv))
section GO
variable {G : mG} {y : mY} {d pc pc9 : Nat} {L st st9 : List mV} {M : mM}
theorem mGo.refl : mGo G y d L M pc st pc st := fun p e R s m args below meth c H locs cells slots ls Qf hA hR hL c1 c2 k => k
theorem go_st {pc' : Nat} {st' : List mV} (hs : ∀ (p : Program) (e : Env) (R : Room) (s : State) (m : MethodId) (args : Array Value) (below : List Frame) (meth : Method) (c : Code) (H : Heap) (locs : List Loc) (cells slots : Nat) (ls : Array Slot) (Qf : State → Prop), mAt G y d p R s m args meth c → mRep G M H → mLs ls y.2.2.1 L → W p (gL G) e R s m args below meth c H locs cells slots Qf (F0 m pc' ls (st'.map mcv)) → W p (gL G) e R s m args below meth c H locs cells slots Qf (F0 m pc ls (st.map mcv))) (h : mGo G y d L M pc' st' pc9 st9) : mGo G y d L M pc st pc9 st9 := fun p e R s m args below meth c H locs cells slots ls Qf hA hR hL c1 c2 k => hs p e R s m args below meth c H locs cells slots ls Qf hA hR hL (h p e R s m args below meth c H locs cells slots ls Qf hA hR hL c1 c2 k)
theorem go_iconst {n : Int} (hd : decode y.2.1 pc = .ok (.iconst n, 1)) (h : mGo G y d L M (pc + 1) (vi n :: st) pc9 st9) : mGo G y d L M pc st pc9 st9 := go_st (fun p e R s m args below meth c H locs cells slots ls Qf hA hR hL k => lv_iconst hA.1 hA.2.1 hd rfl k) h
theorem go_bipush {n : Int} (hd : decode y.2.1 pc = .ok (.bipush n, 2)) (hv : (Int8.ofInt n).toInt32 = Int32.ofInt n) (h : mGo G y d L M (pc + 2) (vi n :: st) pc9 st9) : mGo G y d L M pc st pc9 st9 := go_st (fun p e R s m args below meth c H locs cells slots ls Qf hA hR hL k => lv_bipush hA.1 hA.2.1 hd hv k) h
theorem go_iload_n {k0 : Fin 4} {i : Nat} {x : Int} (hd : decode y.2.1 pc = .ok (.iload_n k0, 1)) (hi : (k0 : Nat) = i) (hv : L[i]? = some (vi x)) (h : mGo G y d L M (pc + 1) (vi x :: st) pc9 st9) : mGo G y d L M pc st pc9 st9 := go_st (fun p e R s m args below meth c H locs cells slots ls Qf hA hR hL k => lv_iload_n hA.1 hA.2.1 hd hi (hL.at hv rfl) k) h
theorem go_aload_n {k0 : Fin 4} {i : Nat} {x : Nat} (hd : decode y.2.1 pc = .ok (.aload_n k0, 1)) (hi : (k0 : Nat) = i) (hv : L[i]? = some (vr x)) (h : mGo G y d L M (pc + 1) (vr x :: st) pc9 st9) : mGo G y d L M pc st pc9 st9 := by
  by_cases h0 : x = 0
  · subst h0
    exact go_st (fun p e R s m args below meth c H locs cells slots ls Qf hA hR hL k => lv_aload_nN hA.1 hA.2.1 hd hi (hL.at hv rfl) k) h
  · have e9 : mcv (vr x) = .ref x := if_neg h0
    exact go_st (fun p e R s m args below meth c H locs cells slots ls Qf hA hR hL k => by
      have k' : W p (gL G) e R s m args below meth c H locs cells slots Qf (F0 m (pc + 1) ls (.ref x :: st.map mcv)) := by rw [← e9]; exact k
      exact lv_aload_n hA.1 hA.2.1 hd hi (by rw [← e9]; exact hL.at hv rfl) k') h
theorem go_iadd {x z : Int} (hd : decode y.2.1 pc = .ok (.iadd, 1)) (h : mGo G y d L M (pc + 1) (vi (x + z) :: st) pc9 st9) : mGo G y d L M pc (vi z :: vi x :: st) pc9 st9 :=
  go_st (fun p e R s m args below meth c H locs cells slots ls Qf hA hR hL k => by
    have k' : W p (gL G) e R s m args below meth c H locs cells slots Qf (F0 m (pc + 1) ls (.int (Int32.ofInt (x + z)) :: st.map mcv)) := k
    rw [Int32.ofInt_add] at k'
    exact lv_iadd hA.1 hA.2.1 hd k') h
theorem go_isub {x z : Int} (hd : decode y.2.1 pc = .ok (.isub, 1)) (h : mGo G y d L M (pc + 1) (vi (x - z) :: st) pc9 st9) : mGo G y d L M pc (vi z :: vi x :: st) pc9 st9 :=
  go_st (fun p e R s m args below meth c H locs cells slots ls Qf hA hR hL k => by
    have k' : W p (gL G) e R s m args below meth c H locs cells slots Qf (F0 m (pc + 1) ls (.int (Int32.ofInt (x - z)) :: st.map mcv)) := k
    rw [Int32.ofInt_sub] at k'
    exact lv_isub hA.1 hA.2.1 hd k') h
theorem go_if_eq {x : Int} {off : Int} {tgt : Nat} (hd : decode y.2.1 pc = .ok (.ifCond .eq off, 3)) (ht : (pc : Int) + off = (tgt : Int)) (hx : i32 x) (kt : x = 0 → mGo G y d L M tgt st pc9 st9) (kf : ¬ (x = 0) → mGo G y d L M (pc + 3) st pc9 st9) : mGo G y d L M pc (vi x :: st) pc9 st9 := by
  by_cases hc : x = 0
  · exact go_st (fun p e R s m args below meth c H locs cells slots ls Qf hA hR hL k => lv_if_eq hA.1 hA.2.1 hd ht (fun _ => k) (fun q => absurd ((i32_eq0 hx).mpr hc) q)) (kt hc)
  · exact go_st (fun p e R s m args below meth c H locs cells slots ls Qf hA hR hL k => lv_if_eq hA.1 hA.2.1 hd ht (fun q => absurd ((i32_eq0 hx).mp q) hc) (fun _ => k)) (kf hc)
theorem go_if_ne {x : Int} {off : Int} {tgt : Nat} (hd : decode y.2.1 pc = .ok (.ifCond .ne off, 3)) (ht : (pc : Int) + off = (tgt : Int)) (hx : i32 x) (kt : ¬ x = 0 → mGo G y d L M tgt st pc9 st9) (kf : ¬ (¬ x = 0) → mGo G y d L M (pc + 3) st pc9 st9) : mGo G y d L M pc (vi x :: st) pc9 st9 := by
  by_cases hc : ¬ x = 0
  · exact go_st (fun p e R s m args below meth c H locs cells slots ls Qf hA hR hL k => lv_if_ne hA.1 hA.2.1 hd ht (fun _ => k) (fun q => absurd ((i32_eq0 hx).mp q) hc)) (kt hc)
  · exact go_st (fun p e R s m args below meth c H locs cells slots ls Qf hA hR hL k => lv_if_ne hA.1 hA.2.1 hd ht (fun q => absurd ((i32_eq0 hx).mpr (Classical.not_not.mp hc)) q) (fun _ => k)) (kf hc)
theorem go_if_lt {x : Int} {off : Int} {tgt : Nat} (hd : decode y.2.1 pc = .ok (.ifCond .lt off, 3)) (ht : (pc : Int) + off = (tgt : Int)) (hx : i32 x) (kt : x < 0 → mGo G y d L M tgt st pc9 st9) (kf : ¬ (x < 0) → mGo G y d L M (pc + 3) st pc9 st9) : mGo G y d L M pc (vi x :: st) pc9 st9 := by
  by_cases hc : x < 0
  · exact go_st (fun p e R s m args below meth c H locs cells slots ls Qf hA hR hL k => lv_if_lt hA.1 hA.2.1 hd ht (fun _ => k) (fun q => absurd ((i32_lt0 hx).mpr hc) q)) (kt hc)
  · exact go_st (fun p e R s m args below meth c H locs cells slots ls Qf hA hR hL k => lv_if_lt hA.1 hA.2.1 hd ht (fun q => absurd ((i32_lt0 hx).mp q) hc) (fun _ => k)) (kf hc)
theorem go_icmp_eq {x z : Int} {off : Int} {tgt : Nat} (hd : decode y.2.1 pc = .ok (.if_icmp .eq off, 3)) (ht : (pc : Int) + off = (tgt : Int)) (hx : i32 x) (hz : i32 z) (kt : x = z → mGo G y d L M tgt st pc9 st9) (kf : ¬ (x = z) → mGo G y d L M (pc + 3) st pc9 st9) : mGo G y d L M pc (vi z :: vi x :: st) pc9 st9 := by
  by_cases hc : x = z
  · exact go_st (fun p e R s m args below meth c H locs cells slots ls Qf hA hR hL k => lv_icmp_eq hA.1 hA.2.1 hd ht (fun _ => k) (fun q => absurd ((i32_eq hx hz).mpr hc) q)) (kt hc)
  · exact go_st (fun p e R s m args below meth c H locs cells slots ls Qf hA hR hL k => lv_icmp_eq hA.1 hA.2.1 hd ht (fun q => absurd ((i32_eq hx hz).mp q) hc) (fun _ => k)) (kf hc)
theorem go_icmp_ne {x z : Int} {off : Int} {tgt : Nat} (hd : decode y.2.1 pc = .ok (.if_icmp .ne off, 3)) (ht : (pc : Int) + off = (tgt : Int)) (hx : i32 x) (hz : i32 z) (kt : ¬ x = z → mGo G y d L M tgt st pc9 st9) (kf : ¬ (¬ x = z) → mGo G y d L M (pc + 3) st pc9 st9) : mGo G y d L M pc (vi z :: vi x :: st) pc9 st9 := by
  by_cases hc : ¬ x = z
  · exact go_st (fun p e R s m args below meth c H locs cells slots ls Qf hA hR hL k => lv_icmp_ne hA.1 hA.2.1 hd ht (fun _ => k) (fun q => absurd ((i32_eq hx hz).mp q) hc)) (kt hc)
  · exact go_st (fun p e R s m args below meth c H locs cells slots ls Qf hA hR hL k => lv_icmp_ne hA.1 hA.2.1 hd ht (fun q => absurd ((i32_eq hx hz).mpr (Classical.not_not.mp hc)) q) (fun _ => k)) (kf hc)
theorem go_icmp_lt {x z : Int} {off : Int} {tgt : Nat} (hd : decode y.2.1 pc = .ok (.if_icmp .lt off, 3)) (ht : (pc : Int) + off = (tgt : Int)) (hx : i32 x) (hz : i32 z) (kt : x < z → mGo G y d L M tgt st pc9 st9) (kf : ¬ (x < z) → mGo G y d L M (pc + 3) st pc9 st9) : mGo G y d L M pc (vi z :: vi x :: st) pc9 st9 := by
  by_cases hc : x < z
  · exact go_st (fun p e R s m args below meth c H locs cells slots ls Qf hA hR hL k => lv_icmp_lt hA.1 hA.2.1 hd ht (fun _ => k) (fun q => absurd ((i32_lt hx hz).mpr hc) q)) (kt hc)
  · exact go_st (fun p e R s m args below meth c H locs cells slots ls Qf hA hR hL k => lv_icmp_lt hA.1 hA.2.1 hd ht (fun q => absurd ((i32_lt hx hz).mp q) hc) (fun _ => k)) (kf hc)
theorem go_icmp_ge {x z : Int} {off : Int} {tgt : Nat} (hd : decode y.2.1 pc = .ok (.if_icmp .ge off, 3)) (ht : (pc : Int) + off = (tgt : Int)) (hx : i32 x) (hz : i32 z) (kt : z ≤ x → mGo G y d L M tgt st pc9 st9) (kf : ¬ (z ≤ x) → mGo G y d L M (pc + 3) st pc9 st9) : mGo G y d L M pc (vi z :: vi x :: st) pc9 st9 := by
  by_cases hc : z ≤ x
  · exact go_st (fun p e R s m args below meth c H locs cells slots ls Qf hA hR hL k => lv_icmp_ge hA.1 hA.2.1 hd ht (fun _ => k) (fun q => absurd ((i32_le hz hx).mpr hc) q)) (kt hc)
  · exact go_st (fun p e R s m args below meth c H locs cells slots ls Qf hA hR hL k => lv_icmp_ge hA.1 hA.2.1 hd ht (fun q => absurd ((i32_le hz hx).mp q) hc) (fun _ => k)) (kf hc)
theorem go_icmp_gt {x z : Int} {off : Int} {tgt : Nat} (hd : decode y.2.1 pc = .ok (.if_icmp .gt off, 3)) (ht : (pc : Int) + off = (tgt : Int)) (hx : i32 x) (hz : i32 z) (kt : z < x → mGo G y d L M tgt st pc9 st9) (kf : ¬ (z < x) → mGo G y d L M (pc + 3) st pc9 st9) : mGo G y d L M pc (vi z :: vi x :: st) pc9 st9 := by
  by_cases hc : z < x
  · exact go_st (fun p e R s m args below meth c H locs cells slots ls Qf hA hR hL k => lv_icmp_gt hA.1 hA.2.1 hd ht (fun _ => k) (fun q => absurd ((i32_lt hz hx).mpr hc) q)) (kt hc)
  · exact go_st (fun p e R s m args below meth c H locs cells slots ls Qf hA hR hL k => lv_icmp_gt hA.1 hA.2.1 hd ht (fun q => absurd ((i32_lt hz hx).mp q) hc) (fun _ => k)) (kf hc)
theorem go_icmp_le {x z : Int} {off : Int} {tgt : Nat} (hd : decode y.2.1 pc = .ok (.if_icmp .le off, 3)) (ht : (pc : Int) + off = (tgt : Int)) (hx : i32 x) (hz : i32 z) (kt : x ≤ z → mGo G y d L M tgt st pc9 st9) (kf : ¬ (x ≤ z) → mGo G y d L M (pc + 3) st pc9 st9) : mGo G y d L M pc (vi z :: vi x :: st) pc9 st9 := by
  by_cases hc : x ≤ z
  · exact go_st (fun p e R s m args below meth c H locs cells slots ls Qf hA hR hL k => lv_icmp_le hA.1 hA.2.1 hd ht (fun _ => k) (fun q => absurd ((i32_le hx hz).mpr hc) q)) (kt hc)
  · exact go_st (fun p e R s m args below meth c H locs cells slots ls Qf hA hR hL k => lv_icmp_le hA.1 hA.2.1 hd ht (fun q => absurd ((i32_le hx hz).mp q) hc) (fun _ => k)) (kf hc)
theorem go_goto {off : Int} {tgt : Nat} (hd : decode y.2.1 pc = .ok (.goto off, 3)) (ht : (pc : Int) + off = (tgt : Int)) (h : mGo G y d L M tgt st pc9 st9) : mGo G y d L M pc st pc9 st9 := go_st (fun p e R s m args below meth c H locs cells slots ls Qf hA hR hL k => lv_goto hA.1 hA.2.1 hd ht k) h
theorem go_get {c k idx a : Nat} {C : String} {T : u_T} {N : Nat} {t : Nat → FieldType} {v : mV} (hcl : vwCl[c]? = some (C, T, N)) (hty : vwTy[c]? = some t) (hin : ∀ w ∈ u_ws C T N, w ∈ lw_R) (hk : k < N) (hv : fV (t k) M a k = mcv v) (hl : Cond.fieldLink y.1.cls idx (T k).1 (T k).2.1 (T k).2.2.1 ∈ lw_R) (hd : decode y.2.1 pc = .ok (.getfield idx, 3)) (hK : mK M a = c + 1) (h : mGo G y d L M (pc + 3) (v :: st) pc9 st9) : mGo G y d L M pc (vr a :: st) pc9 st9 :=
  go_st (fun p e R s m args below meth co H locs cells slots ls Qf hA hR hL kk => by
    obtain ⟨hb1, cell, q1, q2, q3, q4⟩ := (hR.2.2.2.2.2.2 a).1 c _ t hK hcl hty
    obtain ⟨hx, hb, -, -, -, -, hown, hKK, hts, -⟩ := hA
    obtain ⟨hS, hfc, kC, hkC, hkind⟩ := hKK.1 c _ hcl
    obtain ⟨cf, kf, fi, f, hi, hsl⟩ := hS k hk
    show W p (gL G) e R s m args below meth co H locs cells slots Qf (F0 m pc ls (mcv (vr a) :: st.map mcv))
    rw [hR.own hb1]
    refine W.getf hx hb hown (hts _ hl) hi (u_facts hfc hkC (u_lays hts hin hk) hi).1 q1 (by rw [q3]; exact fun h => by cases h) (v := mcv v) ?_ rfl rfl hd kk
    rw [hsl, q4 k hk]
    exact congrArg some hv) h
theorem go_iald {a : Nat} {i : Int} (hd : decode y.2.1 pc = .ok (.iaload, 1)) (hK : mK M a = 30) (hi : 0 ≤ i ∧ i < mN M a) (h : mGo G y d L M (pc + 1) (vi (mI M a i.toNat) :: st) pc9 st9) : mGo G y d L M pc (vi i :: vr a :: st) pc9 st9 :=
  go_st (fun p e R s m args below meth co H locs cells slots ls Qf hA hR hL kk => by
    obtain ⟨g1, g2, g3⟩ := (hR.2.2.2.2.2.2 a).2.1 0 .int hK rfl
    obtain ⟨hx, hb, -, -, -, -, hown, hKK, hts, -⟩ := hA
    have hi3 : i32 i := ⟨by omega, by omega⟩
    show W p (gL G) e R s m args below meth co H locs cells slots Qf (F0 m pc ls (.int (Int32.ofInt i) :: mcv (vr a) :: st.map mcv))
    rw [hR.own g1]
    exact W.iald (v := mcv (vi (mI M a i.toNat))) hx hb g3 ((hKK.2 0 _ rfl).1 _ _) (fun q => by cases q) (by rw [arrV_size]; exact i32_in hi g2) (by rw [i32_clamp hi3, arrV_read _ _ (by omega)]; rfl) rfl rfl hd kk) h
theorem gg_CA_13 {a : Nat} (hy : y.1.cls = "ChanceArena") (hd : decode y.2.1 pc = .ok (.getfield 13, 3)) (hK : mK M a = 1) (h : mGo G y d L M (pc + 3) (vi (mI M a 1) :: st) pc9 st9) : mGo G y d L M pc (vr a :: st) pc9 st9 := go_get (c := 0) (k := 1) (T := T_CA) (t := t_CA) rfl rfl i_CA (by decide) rfl (by rw [hy]; exact k3_188) hd hK h
theorem gg_CA_34 {a : Nat} (hy : y.1.cls = "ChanceArena") (hd : decode y.2.1 pc = .ok (.getfield 34, 3)) (hK : mK M a = 1) (h : mGo G y d L M (pc + 3) (vr (mR M a 4) :: st) pc9 st9) : mGo G y d L M pc (vr a :: st) pc9 st9 := go_get (c := 0) (k := 4) (T := T_CA) (t := t_CA) rfl rfl i_CA (by decide) rfl (by rw [hy]; exact k3_191) hd hK h
theorem gg_CA_41 {a : Nat} (hy : y.1.cls = "ChanceArena") (hd : decode y.2.1 pc = .ok (.getfield 41, 3)) (hK : mK M a = 1) (h : mGo G y d L M (pc + 3) (vi (mI M a 6) :: st) pc9 st9) : mGo G y d L M pc (vr a :: st) pc9 st9 := go_get (c := 0) (k := 6) (T := T_CA) (t := t_CA) rfl rfl i_CA (by decide) rfl (by rw [hy]; exact k3_193) hd hK h
theorem gg_CA_54 {a : Nat} (hy : y.1.cls = "ChanceArena") (hd : decode y.2.1 pc = .ok (.getfield 54, 3)) (hK : mK M a = 1) (h : mGo G y d L M (pc + 3) (vr (mR M a 9) :: st) pc9 st9) : mGo G y d L M pc (vr a :: st) pc9 st9 := go_get (c := 0) (k := 9) (T := T_CA) (t := t_CA) rfl rfl i_CA (by decide) rfl (by rw [hy]; exact k3_196) hd hK h
theorem gg_CA_70 {a : Nat} (hy : y.1.cls = "ChanceArena") (hd : decode y.2.1 pc = .ok (.getfield 70, 3)) (hK : mK M a = 1) (h : mGo G y d L M (pc + 3) (vr (mR M a 11) :: st) pc9 st9) : mGo G y d L M pc (vr a :: st) pc9 st9 := go_get (c := 0) (k := 11) (T := T_CA) (t := t_CA) rfl rfl i_CA (by decide) rfl (by rw [hy]; exact k3_198) hd hK h
theorem gg_CA_137 {a : Nat} (hy : y.1.cls = "ChanceArena") (hd : decode y.2.1 pc = .ok (.getfield 137, 3)) (hK : mK M a = 13) (h : mGo G y d L M (pc + 3) (vi (mI M a 1) :: st) pc9 st9) : mGo G y d L M pc (vr a :: st) pc9 st9 := go_get (c := 12) (k := 1) (T := T_Fs) (t := t_Fs) rfl rfl i_Fs (by decide) rfl (by rw [hy]; exact k3_177) hd hK h
theorem gg_CA_140 {a : Nat} (hy : y.1.cls = "ChanceArena") (hd : decode y.2.1 pc = .ok (.getfield 140, 3)) (hK : mK M a = 6) (h : mGo G y d L M (pc + 3) (vi (mI M a 3) :: st) pc9 st9) : mGo G y d L M pc (vr a :: st) pc9 st9 := go_get (c := 5) (k := 3) (T := T_Pr) (t := t_Pr) rfl rfl i_Pr (by decide) rfl (by rw [hy]; exact k2_35) hd hK h
theorem gg_CA_160 {a : Nat} (hy : y.1.cls = "ChanceArena") (hd : decode y.2.1 pc = .ok (.getfield 160, 3)) (hK : mK M a = 7) (h : mGo G y d L M (pc + 3) (vi (mI M a 0) :: st) pc9 st9) : mGo G y d L M pc (vr a :: st) pc9 st9 := go_get (c := 6) (k := 0) (T := T_Ga) (t := t_Ga) rfl rfl i_Ga (by decide) rfl (by rw [hy]; exact k2_138) hd hK h
theorem gg_Ga_21 {a : Nat} (hy : y.1.cls = "ChanceArena$Game") (hd : decode y.2.1 pc = .ok (.getfield 21, 3)) (hK : mK M a = 7) (h : mGo G y d L M (pc + 3) (vr (mR M a 4) :: st) pc9 st9) : mGo G y d L M pc (vr a :: st) pc9 st9 := go_get (c := 6) (k := 4) (T := T_Ga) (t := t_Ga) rfl rfl i_Ga (by decide) rfl (by rw [hy]; exact k2_149) hd hK h
theorem gg_Ga_55 {a : Nat} (hy : y.1.cls = "ChanceArena$Game") (hd : decode y.2.1 pc = .ok (.getfield 55, 3)) (hK : mK M a = 7) (h : mGo G y d L M (pc + 3) (vi (mI M a 0) :: st) pc9 st9) : mGo G y d L M pc (vr a :: st) pc9 st9 := go_get (c := 6) (k := 0) (T := T_Ga) (t := t_Ga) rfl rfl i_Ga (by decide) rfl (by rw [hy]; exact k2_134) hd hK h
end GO
