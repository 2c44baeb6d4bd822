/-! Functions of methods: what they share. -/
def chk {α : Type} (c : Prop) [Decidable c] (k : Option α) : Option α := if c then k else none
theorem chk_some {α : Type} {c : Prop} [Decidable c] {k : Option α} {o : α} (h : chk c k = some o) : c ∧ k = some o := by
  unfold chk at h
  split at h
  · exact ⟨by assumption, h⟩
  · cases h
theorem bsome {α β : Type} {a : Option α} {f : α → Option β} {o : β} (h : Option.bind a f = some o) : ∃ x, a = some x ∧ f x = some o := by
  cases a with
  | none => cases h
  | some x => exact ⟨x, rfl, h⟩
theorem ifp {α : Type} {c : Prop} [Decidable c] {a b o : α} (h : c) (hF : (if c then a else b) = o) : a = o := by rw [if_pos h] at hF; exact hF
theorem ifn {α : Type} {c : Prop} [Decidable c] {a b o : α} (h : ¬ c) (hF : (if c then a else b) = o) : b = o := by rw [if_neg h] at hF; exact hF
/-- b is a but for the places J -/
def Fr (J : List Nat) (a b : List Value) : Prop := b.length = a.length ∧ ∀ k, k ∉ J → b[k]? = a[k]?
theorem Fr.rfl {J : List Nat} {a : List Value} : Fr J a a := ⟨Eq.refl _, fun _ _ => Eq.refl _⟩
theorem Fr.set {J : List Nat} {a b : List Value} {j : Nat} {v : Value} (h : Fr J a b) (hj : j ∈ J) : Fr J a (b.set j v) :=
  ⟨by rw [List.length_set]; exact h.1, fun k hk => by
    have hne : j ≠ k := fun e => hk (by rw [← e]; exact hj)
    rw [List.getElem?_set_ne hne]; exact h.2 k hk⟩
theorem Fr.trans {J : List Nat} {a b c : List Value} (h1 : Fr J a b) (h2 : Fr J b c) : Fr J a c := ⟨h2.1.trans h1.1, fun k hk => (h2.2 k hk).trans (h1.2 k hk)⟩
theorem Fr.sub {J K : List Nat} {a b : List Value} (h : Fr J a b) (hs : ∀ k ∈ J, k ∈ K) : Fr K a b := ⟨h.1, fun k hk => h.2 k (fun hj => hk (hs k hj))⟩
theorem Fr.get {J : List Nat} {a b : List Value} {k : Nat} {v : Value} (h : Fr J a b) (hk : k ∉ J) (hv : a[k]? = some v) : b[k]? = some v := (h.2 k hk).trans hv
theorem zNn {x : Int32} (h : 0 ≤ x.toInt ∧ x.toInt ≤ 16777216) : ¬ x < 0 := fun h9 => by
  have h8 := Int32.lt_iff_toInt_lt.mp h9
  have h7 : (0 : Int32).toInt = 0 := by decide
  omega
theorem zNby {x : Int32} {k : Nat} (h : 0 ≤ x.toInt ∧ x.toInt ≤ 16777216) (hk : k ≤ 8) : x.toNatClampNeg * k ≤ 536870912 := by
  have hc : x.toNatClampNeg = x.toInt.toNat := rfl
  have h1 : x.toNatClampNeg ≤ 16777216 := by omega
  have h2 := Nat.mul_le_mul h1 hk
  omega
theorem zNb {v : Int32} (h : v = 0 ∨ v = 1) : narrow .boolean (.int v) = .int v := by rcases h with rfl | rfl <;> rfl
abbrev zMl {S : Type} (l : Launch) (y : MethodName) (ws : List Cond) (rm : Room) (av : List Value) (D : va_G) (tA : Nat → ClassId) (W0 : va_W) (sz : Nat) (post : Int64 → S → Prop) (W1 : S → va_W) (mc ms : Nat) : Prop :=
  Met l y ws rm (va_Pc av (zPre D tA W0 sz)) (va_Ql post (zPost D (va_A W0 sz) W1) (va_A W0 sz)) mc ms (va_A W0 sz)
section DecLong
variable {p : Program} {l : Launch} {e : Env} {R : Room} {s : State} {m : MethodId} {args : Array Value} {below : List Frame} {meth : Method} {c : Code} {H : Heap} {locs : List Loc} {cells slots : Nat} {Q : State → Prop}
theorem zLret {cc : ByteArray} {S : Type} {post : Int64 → S → Prop} {W1 : S → va_W} {D : va_G} {A : Nat → Prop} {ws : va_W} {v : Int64} (hexec : p.tables.exec = Jvm.exec) (hb : c.code = cc) (hr : meth.sig.returnType = some .long) (hlocks : meth.locks = false) (hP : va_P D vwCl ws H) (hD : va_D A ws) (hS : va_S A s.heap H locs) (u : S) (hp : post v u) (he : ws = W1 u) {pc : Nat} {ls : Array Slot} (hdg : decode cc pc = .ok (.lreturn, 1)) :
    W p l e R s m args below meth c H locs cells slots (MQ below (va_Ql post (zPost D A W1) A) args s cells slots A) (F0 m pc ls [.long v]) := by
  subst he
  exact W.lret hexec hb hr (fun t ht hW => ⟨⟨v, u, rfl, hp, by rw [ht]; exact hP, hD⟩, hS.F ht⟩) hS.2.2 hdg
theorem zCalll {S : Type} {post : Int64 → S → Prop} {W1 : S → va_W} {D : va_G} {A : Nat → Prop} {ws wc wr : va_W} {a : Array Value} {mc ms pc : Nat} {ls : Array Slot} {rest st0 : List Value}
    (hP : va_P D vwCl ws H) (hD : va_D A ws) (hS : va_S A s.heap H locs) (hA : ∀ q, s.heap.size ≤ q → A q) (isC isR : List Nat) (hC : isC.map (fun i => ws[i]?) = wc.map some) (hR : isR.map (fun i => ws[i]?) = wr.map some) (hn : va_nd isR = true) (hdis : ∀ i ∈ isR, i ∉ isC)
    (hr : va_Run p l e R s m args below meth c H locs cells slots mc ms (F0 m pc ls st0) rest (va_Ql post (zPost D (va_A wc H.size) W1) (va_A wc H.size) a) (va_A wc H.size))
    (kk : ∀ (r : Int64) (u : S) (H1 : Heap) (locs1 : List Loc), post r u → va_P D vwCl (wr ++ W1 u) H1 → va_D A (wr ++ W1 u) → va_S A s.heap H1 locs1 → W p l e R s m args below meth c H1 locs1 (cells + mc) (slots + ms) Q (F0 m (pc + 3) ls (.long r :: rest))) :
    W p l e R s m args below meth c H locs cells slots Q (F0 m pc ls st0) := by
  have hFc := va_free (wc := wc) hD hS hA isC hC
  refine va_calll hr hS (fun q _ h => hFc q h) hFc (fun r u t H1 locs1 ht hvm hw hB hz1 hk1 hS1 => ?_)
  obtain ⟨hP1, hD1⟩ := hB
  rw [ht] at hP1
  obtain ⟨hP2, hD2⟩ := va_join hP hD isC isR hC hR hn hdis hk1 hFc hP1 hD1
  exact kk r u H1 locs1 hw hP2 hD2 hS1
end DecLong
theorem zVS {R : Room} {s : State} {args : Array Value} {own : String} {index maxL mc ms : Nat} {y : MethodName} {bytes : ByteArray} {ret : Option FieldType} {rm : Room} (n : Nat) (hg : ∀ w ∈ lw_R, w.before args s = true) (h1 : Cond.methodLink own index y ∈ lw_R) (h2 : Cond.static y ∈ lw_R) (h4 : Cond.initialized y.cls ∈ lw_R) (h5 : Cond.code y bytes maxL ret ∈ lw_R) (hrc : rm.cells = mc) (hrs : rm.slots = ms)
    (hd : y.cls ≠ "java/lang/invoke/MethodHandle" ∧ y.cls ≠ "java/lang/invoke/VarHandle" ∧ (parseMethodDescriptor y.desc).map (fun d => d.parameters.length) = some n) (hR : rm.frames + 1 ≤ R.frames ∧ 8 + (maxL + 11) + rm.locals ≤ R.locals) : CallB R s args own index y bytes maxL ret (zW (Cond.code y bytes maxL ret)) rm mc ms n ∧ (Cond.static y).before args s = true :=
  ⟨callB_of n hg (zGood h5 rfl) rfl hrc hrs (hg _ h4) (hg _ h1) hd hR, hg _ h2⟩
