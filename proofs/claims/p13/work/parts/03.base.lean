/-! A shorter dress for contracts: the array classes are fixed (tA), a contract's world comes in and goes out as a list of cells, the frame is joined in one row. -/
section Base
variable {p : Program} {l : Launch} {e : Env} {R : Room} {s : State} {m : MethodId} {args : Array Value} {below : List Frame} {meth : Method} {c : Code} {H : Heap} {locs : List Loc} {cells slots : Nat} {Q : State → Prop}
/-- the array classes -/
abbrev zT (tA : Nat → ClassId) : List (ClassId × FieldType) := [(tA 0, .int), (tA 1, .boolean), (tA 2, .char), (tA 3, .long), (tA 4, .object "ChanceArena$Natural"), (tA 5, .object "ChanceArena$Fraction"), (tA 6, .object "ChanceArenaModel$Fraction")]
/-- a contract's start: the world W0, the heap's size -/
def zPre (D : va_G) (tA : Nat → ClassId) (W0 : va_W) (sz : Nat) (U : State) : Prop := U.heap.size = sz ∧ va_P D vwCl W0 U.heap ∧ va_K D vwCl (zT tA) U ∧ va_D (fun _ => True) W0 ∧ zH U
/-- a contract's end: the world W1 u -/
def zPost {S : Type} (D : va_G) (A : Nat → Prop) (W1 : S → va_W) (u : S) (t : State) : Prop := va_P D vwCl (W1 u) t.heap ∧ va_D A (W1 u)
abbrev zMv {S : Type} (l : Launch) (y : MethodName) (ws : List Cond) (rm : Room) (av : List Value) (D : va_G) (tA : Nat → ClassId) (W0 : va_W) (sz : Nat) (post : S → Prop) (W1 : S → va_W) (mc ms : Nat) : Prop :=
  Met l y ws rm (va_Pc av (zPre D tA W0 sz)) (va_Qv post (zPost D (va_A W0 sz) W1) (va_A W0 sz)) mc ms (va_A W0 sz)
abbrev zMi {S : Type} (l : Launch) (y : MethodName) (ws : List Cond) (rm : Room) (av : List Value) (D : va_G) (tA : Nat → ClassId) (W0 : va_W) (sz : Nat) (post : Int32 → S → Prop) (W1 : S → va_W) (mc ms : Nat) : Prop :=
  Met l y ws rm (va_Pc av (zPre D tA W0 sz)) (va_Qi post (zPost D (va_A W0 sz) W1) (va_A W0 sz)) mc ms (va_A W0 sz)
/-- a method that only reads -/
abbrev zMp (l : Launch) (y : MethodName) (ws : List Cond) (rm : Room) (av : List Value) (D : va_G) (tA : Nat → ClassId) (W0 : va_W) (sz : Nat) (post : Int32 → Prop) : Prop :=
  Met l y ws rm (va_Pc av (zPre D tA W0 sz)) (va_Qi (fun r (_ : Unit) => post r) (fun _ _ => True) (va_A [] sz)) 0 0 (va_A [] sz)
theorem zBlind {av : List Value} {D : va_G} {tA : Nat → ClassId} {W0 : va_W} {sz : Nat} : FrameBlind (va_Pc av (zPre D tA W0 sz)) := fun a U g mk q => by
  obtain ⟨q0, q1, qP, qK, qD, qH⟩ := q
  exact ⟨q0, q1, qP, va_K.moved (u := U) (U := U.calling g mk a) (Vm.Alike.refl U.vm) qK, qD, zH.moved (s := U) (U := U.calling g mk a) (State.WarmedH.refl U) qH⟩
theorem zFm {α β : Type} {f : α → Option β} {is : List α} {w : List β} (h : is.map f = w.map some) : is.filterMap f = w := by
  have h1 : (is.map f).filterMap id = (w.map some).filterMap id := by rw [h]
  simpa [List.filterMap_map] using h1
theorem zPc {D : va_G} {ws wc : va_W} (hP : va_P D vwCl ws H) (isC : List Nat) (hC : isC.map (fun i => ws[i]?) = wc.map some) : va_P D vwCl wc H := hP.sub isC (zFm hC)
theorem zPreS {D : va_G} {tA : Nat → ClassId} {A : Nat → Prop} {ws wc : va_W} {av : List Value} (hh : zH s) (hK : va_K D vwCl (zT tA) s) (hP : va_P D vwCl ws H) (hD : va_D A ws) (isC : List Nat) (hn : va_nd isC = true) (hC : isC.map (fun i => ws[i]?) = wc.map some) : PreS s H (va_Pc av (zPre D tA wc H.size)) av :=
  ⟨zBlind, fun U hU hW => ⟨rfl, by rw [hU], by rw [hU]; exact zPc hP isC hC, va_K.moved hW.alike hK, (hD.sub isC hn hC).weaken (fun _ _ _ _ => trivial), zH.moved hW hh⟩⟩
theorem zPreV {D : va_G} {tA : Nat → ClassId} {A : Nat → Prop} {ws wc : va_W} {b : Nat} {As : List Value} (hh : zH s) (hK : va_K D vwCl (zT tA) s) (hP : va_P D vwCl ws H) (hD : va_D A ws) (isC : List Nat) (hn : va_nd isC = true) (hC : isC.map (fun i => ws[i]?) = wc.map some) {ci : Nat} {r : vw_C} (hc : vwCl[ci]? = some r) (q0 : Nat) {fs : List Value} (he : wc[q0]? = some (b, .inr (ci, fs))) : PreV s H r.1 b (va_Pc (.ref b :: As) (zPre D tA wc H.size)) As :=
  ⟨zBlind, va_recv hK (zPc hP isC hC) hc he, fun U hU hW => ⟨rfl, by rw [hU], by rw [hU]; exact zPc hP isC hC, va_K.moved hW.alike hK, (hD.sub isC hn hC).weaken (fun _ _ _ _ => trivial), zH.moved hW hh⟩⟩
/-- a contract is opened -/
theorem zOpen {y : MethodName} {ws ws' : List Cond} {rm : Room} {av : List Value} {D : va_G} {tA : Nat → ClassId} {W0 Wm : va_W} {sz : Nat} (Qz : (Nat → Prop) → Array Value → State → Outcome → State → Prop) {mc ms : Nat} {cc : ByteArray} {maxL : Nat} {ret : Option FieldType} {lv : List (Nat × Value)}
    (hy : plainName y.cls = true) (hw : ws = Cond.code y cc maxL ret :: ws') (hlen : (lg_sl av).length ≤ maxL) (hlv : lv_args 0 av = lv)
    (body : ∀ (p : Program) (e : Env) (s : State) (m : MethodId) (below : List Frame) (meth : Method) (c : Code) (A : Nat → Prop) (ls : Array Slot), p.tables.exec = Jvm.exec → c.code = cc → meth.sig.returnType = ret → c.maxLocals = maxL → zH s → (∀ w ∈ lw_R, w.before av.toArray s = true) → s.vm.findClass y.cls = some m.cls → meth.locks = false → meth.name = y.name → va_K D vwCl (zT tA) s → (∀ q, s.heap.size ≤ q → A q) → va_P D vwCl W0 s.heap → va_D (fun _ => True) W0 → (∀ (k : Nat) (q : Nat × va_E), Wm[k]? = some q → A q.1) → va_S A s.heap s.heap [] → lv_has ls maxL lv →
      W p l e rm s m av.toArray below meth c s.heap [] 0 0 (MQ below (Qz A) av.toArray s mc ms A) (F0 m 0 ls [])) :
    Met l y ws rm (va_Pc av (zPre D tA W0 sz)) (Qz (va_A Wm sz)) mc ms (va_A Wm sz) := by
  refine Met.ofW (cc := cc) (maxL := maxL) (ret := ret) hy hw ?_
  intro p e s m args below meth c s₁ B hml hv
  obtain ⟨rfl, hsz, hP, hK, hD0, hh⟩ := hv
  subst hsz
  have hl := lv_entry av (n := maxL) hlen
  rw [lg_entry_eq]
  generalize (lg_sl av ++ List.replicate (maxL - (lg_sl av).length) Slot.unset).toArray = ls at hl ⊢
  rw [hlv] at hl
  exact body p e s m below meth c _ ls B.exec B.bytes B.returns hml hh (hh.use _) (findClass_of_methodNamed B.named) B.notSynchronized (name_of_methodNamed B.named B.method).1 hK (fun q h => Or.inr h) hP hD0 (fun k q h => Or.inl ⟨k, q.2, h⟩) va_S.rf hl
theorem zD {A : Nat → Prop} {W0 : va_W} (h : va_D (fun _ => True) W0) (hA : ∀ (k : Nat) (q : Nat × va_E), W0[k]? = some q → A q.1) : va_D A W0 := ⟨h.1, fun k q hq => hA k q hq⟩
/-- the ends -/
theorem zVret {cc : ByteArray} {S : Type} {post : S → Prop} {W1 : S → va_W} {D : va_G} {A : Nat → Prop} {ws : va_W} (hexec : p.tables.exec = Jvm.exec) (hb : c.code = cc) (hr : meth.sig.returnType = none) (hlocks : meth.locks = false) (hP : va_P D vwCl ws H) (hD : va_D A ws) (hS : va_S A s.heap H locs) (u : S) (hp : post u) (he : ws = W1 u) {pc : Nat} {ls : Array Slot} (hdg : decode cc pc = .ok (.return_, 1)) :
    W p l e R s m args below meth c H locs cells slots (MQ below (va_Qv post (zPost D A W1) A) args s cells slots A) (F0 m pc ls []) := by
  subst he
  exact W.vret hexec hb hr (fun t ht hW => ⟨⟨u, rfl, hp, by rw [ht]; exact hP, hD⟩, hS.F ht⟩) hS.2.2 hdg
theorem zIret {cc : ByteArray} {S : Type} {post : Int32 → S → Prop} {W1 : S → va_W} {D : va_G} {A : Nat → Prop} {ws : va_W} {v : Int32} (hexec : p.tables.exec = Jvm.exec) (hb : c.code = cc) (hr : meth.sig.returnType = some .int) (hlocks : meth.locks = false) (hP : va_P D vwCl ws H) (hD : va_D A ws) (hS : va_S A s.heap H locs) (u : S) (hp : post v u) (he : ws = W1 u) {pc : Nat} {ls : Array Slot} (hdg : decode cc pc = .ok (.ireturn, 1)) :
    W p l e R s m args below meth c H locs cells slots (MQ below (va_Qi post (zPost D A W1) A) args s cells slots A) (F0 m pc ls [.int v]) := by
  subst he
  exact W.iret hexec hb hr (fun t ht hW => ⟨⟨v, u, rfl, hp, by rw [ht]; exact hP, hD⟩, hS.F ht⟩) hS.2.2 hdg
theorem zPret {cc : ByteArray} {post : Int32 → Prop} {A : Nat → Prop} {v : Int32} {ty : FieldType} (hexec : p.tables.exec = Jvm.exec) (hb : c.code = cc) (hr : meth.sig.returnType = some ty) (hty : narrow ty (.int v) = .int v) (hlocks : meth.locks = false) (hS : va_S A s.heap H locs) (hp : post v) {pc : Nat} {ls : Array Slot} (hdg : decode cc pc = .ok (.ireturn, 1)) :
    W p l e R s m args below meth c H locs cells slots (MQ below (va_Qi (fun r (_ : Unit) => post r) (fun _ _ => True) A) args s cells slots A) (F0 m pc ls [.int v]) :=
  W.zret hexec hb hr hty (fun t ht hW => ⟨⟨v, (), rfl, hp, trivial⟩, hS.F ht⟩) hS.2.2 hdg
/-- calls, the frame joined -/
theorem zCallv {S : Type} {post : S → Prop} {W1 : S → va_W} {D : va_G} {A : Nat → Prop} {ws wc wr : va_W} {a : Array Value} {mc ms pc : Nat} {ls : Array Slot} {rest st0 : List Value}
    (hP : va_P D vwCl ws H) (hD : va_D A ws) (hS : va_S A s.heap H locs) (hA : ∀ q, s.heap.size ≤ q → A q) (isC isR : List Nat) (hC : isC.map (fun i => ws[i]?) = wc.map some) (hR : isR.map (fun i => ws[i]?) = wr.map some) (hn : va_nd isR = true) (hdis : ∀ i ∈ isR, i ∉ isC)
    (hr : va_Run p l e R s m args below meth c H locs cells slots mc ms (F0 m pc ls st0) rest (va_Qv post (zPost D (va_A wc H.size) W1) (va_A wc H.size) a) (va_A wc H.size))
    (kk : ∀ (u : S) (H1 : Heap) (locs1 : List Loc), post u → va_P D vwCl (wr ++ W1 u) H1 → va_D A (wr ++ W1 u) → va_S A s.heap H1 locs1 → W p l e R s m args below meth c H1 locs1 (cells + mc) (slots + ms) Q (F0 m (pc + 3) ls rest)) :
    W p l e R s m args below meth c H locs cells slots Q (F0 m pc ls st0) := by
  have hFc := va_free (wc := wc) hD hS hA isC hC
  refine va_callv hr hS (fun q _ h => hFc q h) hFc (fun u t H1 locs1 ht hvm hw hB hz1 hk1 hS1 => ?_)
  obtain ⟨hP1, hD1⟩ := hB
  rw [ht] at hP1
  obtain ⟨hP2, hD2⟩ := va_join hP hD isC isR hC hR hn hdis hk1 hFc hP1 hD1
  exact kk u H1 locs1 hw hP2 hD2 hS1
theorem zCalli {S : Type} {post : Int32 → S → Prop} {W1 : S → va_W} {D : va_G} {A : Nat → Prop} {ws wc wr : va_W} {a : Array Value} {mc ms pc : Nat} {ls : Array Slot} {rest st0 : List Value}
    (hP : va_P D vwCl ws H) (hD : va_D A ws) (hS : va_S A s.heap H locs) (hA : ∀ q, s.heap.size ≤ q → A q) (isC isR : List Nat) (hC : isC.map (fun i => ws[i]?) = wc.map some) (hR : isR.map (fun i => ws[i]?) = wr.map some) (hn : va_nd isR = true) (hdis : ∀ i ∈ isR, i ∉ isC)
    (hr : va_Run p l e R s m args below meth c H locs cells slots mc ms (F0 m pc ls st0) rest (va_Qi post (zPost D (va_A wc H.size) W1) (va_A wc H.size) a) (va_A wc H.size))
    (kk : ∀ (r : Int32) (u : S) (H1 : Heap) (locs1 : List Loc), post r u → va_P D vwCl (wr ++ W1 u) H1 → va_D A (wr ++ W1 u) → va_S A s.heap H1 locs1 → W p l e R s m args below meth c H1 locs1 (cells + mc) (slots + ms) Q (F0 m (pc + 3) ls (.int r :: rest))) :
    W p l e R s m args below meth c H locs cells slots Q (F0 m pc ls st0) := by
  have hFc := va_free (wc := wc) hD hS hA isC hC
  refine va_calli hr hS (fun q _ h => hFc q h) hFc (fun r u t H1 locs1 ht hvm hw hB hz1 hk1 hS1 => ?_)
  obtain ⟨hP1, hD1⟩ := hB
  rw [ht] at hP1
  obtain ⟨hP2, hD2⟩ := va_join hP hD isC isR hC hR hn hdis hk1 hFc hP1 hD1
  exact kk r u H1 locs1 hw hP2 hD2 hS1
/-- a call that only reads: the world stays, whatever it is -/
theorem zCallp {post : Int32 → Prop} {D : va_G} {A : Nat → Prop} {ws : va_W} {a : Array Value} {pc : Nat} {ls : Array Slot} {rest st0 : List Value}
    (hP : va_P D vwCl ws H) (hS : va_S A s.heap H locs) (hA : ∀ q, s.heap.size ≤ q → A q)
    (hr : va_Run p l e R s m args below meth c H locs cells slots 0 0 (F0 m pc ls st0) rest (va_Qi (fun r (_ : Unit) => post r) (fun _ _ => True) (va_A [] H.size) a) (va_A [] H.size))
    (kk : ∀ (r : Int32) (H1 : Heap) (locs1 : List Loc), post r → va_P D vwCl ws H1 → va_S A s.heap H1 locs1 → W p l e R s m args below meth c H1 locs1 cells slots Q (F0 m (pc + 3) ls (.int r :: rest))) :
    W p l e R s m args below meth c H locs cells slots Q (F0 m pc ls st0) := by
  have hn : ∀ q : Nat, va_A [] H.size q → H.size ≤ q := fun q h => h.elim (fun ⟨k, e9, h9⟩ => by simp at h9) id
  have hFc : ∀ q, va_A [] H.size q → A q := fun q h => hA q (Nat.le_trans hS.1 (hn q h))
  refine va_calli hr hS (fun q _ h => hFc q h) hFc (fun r u t H1 locs1 ht hvm hw hB hz1 hk1 hS1 => ?_)
  exact kk r H1 locs1 hw (hP.kept (fun k q hq => hk1 q.1 (va_at.lt (hP k q hq)) (fun h => absurd (hn q.1 h) (Nat.not_le.mpr (va_at.lt (hP k q hq)))))) hS1
/-- a new array of ints, booleans .. : its class is the fixed one -/
theorem zNewa {cc : ByteArray} {D : va_G} {tA : Nat → ClassId} {A : Nat → Prop} {ws : va_W} {pc : Nat} {ls : Array Slot} {rest : List Value} (hexec : p.tables.exec = Jvm.exec) (hb : c.code = cc) {atype : ArrayType} {ty : FieldType} (hty : newarray.typeOf atype = ty) (harr : (Cond.arrayClass ty).before args s = true) (hK : va_K D vwCl (zT tA) s) (hP : va_P D vwCl ws H) (hD : va_D A ws) (hS : va_S A s.heap H locs) (hA : ∀ q, s.heap.size ≤ q → A q) (t0 : Nat) {cA : ClassId} (ht : (zT tA)[t0]? = some (cA, ty)) (hpr : ∀ C, ty ≠ .object C)
    {n : Int32} {N' : Nat} {a0 : vp_A} (ha : ∀ cA : ClassId, vp_cell cA a0 = arrV cA N' (fun _ => defaultValue ty)) (hn : ¬ n < 0) (hN : n.toNatClampNeg = N') (hbytes : N' * componentBytes ty ≤ 536870912) (hcells : cells + 1 ≤ R.cells) (hslots : slots + N' ≤ R.slots) (hdg : decode cc pc = .ok (.newarray atype, 2))
    (kk : ∀ (q : Nat) (H1 : Heap), va_P D vwCl (ws ++ [(q, .inl (cA, a0))]) H1 → va_D A (ws ++ [(q, .inl (cA, a0))]) → va_S A s.heap H1 locs → W p l e R s m args below meth c H1 locs (cells + 1) (slots + N') Q (F0 m (pc + 2) ls (.ref q :: rest))) :
    W p l e R s m args below meth c H locs cells slots Q (F0 m pc ls (.int n :: rest)) := by
  refine va_newa hexec hb (by rw [hty]; exact harr) hty hK hP hD hS hA ha hn hN hbytes hcells hslots hdg (fun q cA' H1 hK' hP1 hD1 hS1 => ?_)
  have e1 := (hK'.2 (zT tA).length (cA', ty) (by simp)).2
  have e2 := (hK.2 t0 (cA, ty) ht).2
  have e3 : cA' = cA := by
    cases ty with
    | object C => exact absurd rfl (hpr C)
    | _ => exact Option.some.inj (e1.symm.trans e2)
  subst e3
  exact kk q H1 hP1 hD1 hS1
/-- a new array of references -/
theorem zNewq {cc : ByteArray} {D : va_G} {tA : Nat → ClassId} {A : Nat → Prop} {ws : va_W} {pc : Nat} {ls : Array Slot} {rest : List Value} (hexec : p.tables.exec = Jvm.exec) (hb : c.code = cc) {own C : String} {index : Nat} (hown : s.vm.findClass own = some m.cls) (hclink : (Cond.classLink own index C).before args s = true) (hover : (Cond.arrayOver (.object C)).before args s = true) (hK : va_K D vwCl (zT tA) s) (hP : va_P D vwCl ws H) (hD : va_D A ws) (hS : va_S A s.heap H locs) (hA : ∀ q, s.heap.size ≤ q → A q) (t0 : Nat) {cA : ClassId} (ht : (zT tA)[t0]? = some (cA, .object C))
    {n : Int32} {N' : Nat} (hn : ¬ n < 0) (hN : n.toNatClampNeg = N') (hbytes : N' * 4 ≤ 536870912) (hcells : cells + 1 ≤ R.cells) (hslots : slots + N' ≤ R.slots) (hdg : decode cc pc = .ok (.anewarray index, 3))
    (kk : ∀ (q : Nat) (H1 : Heap), va_P D vwCl (ws ++ [(q, .inl (cA, N', .inr (.inr (.inr (.inr (fun _ => none))))))]) H1 → va_D A (ws ++ [(q, .inl (cA, N', .inr (.inr (.inr (.inr (fun _ => none))))))]) → va_S A s.heap H1 locs → W p l e R s m args below meth c H1 locs (cells + 1) (slots + N') Q (F0 m (pc + 3) ls (.ref q :: rest))) :
    W p l e R s m args below meth c H locs cells slots Q (F0 m pc ls (.int n :: rest)) := by
  refine va_newq hexec hb hown hclink (va_AO.of hover) hK hP hD hS hA hn hN hbytes hcells hslots hdg (fun q cA' H1 hK' hP1 hD1 hS1 => ?_)
  have e1 := (hK'.2 (zT tA).length (cA', .object C) (by simp)).2
  have e2 := (hK.2 t0 (cA, .object C) ht).2
  obtain ⟨_, _, _, _, _, f1⟩ := e1
  obtain ⟨_, _, _, _, _, f2⟩ := e2
  have e3 : cA' = cA := Option.some.inj (f1.symm.trans f2)
  subst e3
  exact kk q H1 hP1 hD1 hS1
/-- an object's constructor ends: what it made stands behind what was there -/
theorem zInit {S : Type} {post : S → Prop} {W1 : S → va_W} {D : va_G} {A : Nat → Prop} {ws : va_W} {x : Nat × va_E} {a : Array Value} {mc ms pc : Nat} {ls : Array Slot} {rest st0 : List Value}
    (hP : va_P D vwCl (ws ++ [x]) H) (hD : va_D A (ws ++ [x])) (hS : va_S A s.heap H locs) (hA : ∀ q, s.heap.size ≤ q → A q)
    (hr : va_Run p l e R s m args below meth c H locs cells slots mc ms (F0 m pc ls st0) rest (va_Qv post (zPost D (va_A [x] H.size) W1) (va_A [x] H.size) a) (va_A [x] H.size))
    (kk : ∀ (u : S) (H1 : Heap) (locs1 : List Loc), post u → va_P D vwCl (ws ++ W1 u) H1 → va_D A (ws ++ W1 u) → va_S A s.heap H1 locs1 → W p l e R s m args below meth c H1 locs1 (cells + mc) (slots + ms) Q (F0 m (pc + 3) ls rest)) :
    W p l e R s m args below meth c H locs cells slots Q (F0 m pc ls st0) := by
  have hx : (ws ++ [x])[ws.length]? = some x := by simp
  have hC : [ws.length].map (fun i => (ws ++ [x])[i]?) = [x].map some := by simp
  have hFc := va_free (wc := [x]) hD hS hA [ws.length] hC
  refine va_callv hr hS (fun q _ h => hFc q h) hFc (fun u t H1 locs1 ht hvm hw hB hz1 hk1 hS1 => ?_)
  obtain ⟨hP1, hD1⟩ := hB
  rw [ht] at hP1
  have hold : ∀ (k : Nat) (q : Nat × va_E), ws[k]? = some q → (ws ++ [x])[k]? = some q ∧ k < ws.length := fun k q hk => by
    have hlt : k < ws.length := (List.getElem?_eq_some_iff.mp hk).1
    exact ⟨by rw [List.getElem?_append_left hlt]; exact hk, hlt⟩
  have hne : ∀ (k : Nat) (q : Nat × va_E), ws[k]? = some q → ¬ va_A [x] H.size q.1 := by
    intro k q hk h
    obtain ⟨h1, h2⟩ := hold k q hk
    rcases h with ⟨j, e9, h9⟩ | h
    · have hj : j = 0 := by
        rcases j with _ | j
        · rfl
        · simp at h9
      subst hj
      have h10 : x = (q.1, e9) := by simpa using h9
      have := hD.1 k ws.length q x h1 hx (by rw [h10])
      omega
    · exact absurd h (Nat.not_le.mpr (va_at.lt (hP k q h1)))
  have hPw : va_P D vwCl ws H := fun k q hk => hP k q (hold k q hk).1
  have hDw : va_D A ws := ⟨fun i j p9 q9 hi hj e9 => hD.1 i j p9 q9 (hold i p9 hi).1 (hold j q9 hj).1 e9, fun k q hk => hD.2 k q (hold k q hk).1⟩
  refine kk u H1 locs1 hw ((hPw.kept (fun k q hk => hk1 q.1 (va_at.lt (hPw k q hk)) (hne k q hk))).app hP1) (hDw.app (hD1.weaken (fun k q _ h => hFc _ h)) (fun i j p9 q9 hi hj e9 => hne i p9 hi (by rw [e9]; exact hD1.2 j q9 hj))) hS1
/-- the start of a constructor's call, the new object at the end of the world -/
theorem zPreI {D : va_G} {tA : Nat → ClassId} {A : Nat → Prop} {ws : va_W} {x : Nat × va_E} {av : List Value} (hh : zH s) (hK : va_K D vwCl (zT tA) s) (hP : va_P D vwCl (ws ++ [x]) H) (hD : va_D A (ws ++ [x])) : PreS s H (va_Pc av (zPre D tA [x] H.size)) av :=
  zPreS hh hK hP hD [ws.length] (by simp [va_nd]) (by simp)
end Base
