/-! The law's ground: what its start gives; calls of its helpers; worlds taken out of worlds. -/
theorem zPsub {D : va_G} {ws ws9 : va_W} {H : Heap} (h : List.Sublist ws9 ws) (hP : va_P D vwCl ws H) : va_P D vwCl ws9 H := fun k q hk => by
  obtain ⟨i, hi⟩ := List.mem_iff_getElem?.mp (h.mem (List.mem_iff_getElem?.mpr ⟨k, hk⟩))
  exact hP i q hi
theorem zDsub {A : Nat → Prop} {ws ws9 : va_W} (h : List.Sublist ws9 ws) (hD : va_D A ws) : va_D A ws9 := by
  obtain ⟨h1, h2⟩ := zDpw.mp hD
  exact zDpw.mpr ⟨List.Pairwise.sublist h h1, fun q hq => h2 q (h.mem hq)⟩
theorem zAp {s : State} {args : Array Value} {ty : FieldType} (h : (Cond.arrayClass ty).before args s = true) (hpr : ∀ C, ty ≠ .object C) : ∃ cA : ClassId, ArrOfT s cA ty ∧ va_RA s cA ty := by
  obtain ⟨cA, kA, comp, h1, h2, h3⟩ := Cond.arrayClass_spec h
  refine ⟨cA, fun n z => ⟨fun k h => (by cases h), kA, h2, comp, h3⟩, ?_⟩
  cases ty with
  | object C => exact absurd rfl (hpr C)
  | _ => exact h1
theorem zAo {s : State} {args : Array Value} {C : String} (h : (Cond.arrayOver (.object C)).before args s = true) : ∃ cA : ClassId, ArrOfT s cA (.object C) ∧ va_RA s cA (.object C) := by
  obtain ⟨comp, cA, kA, f4, -, f2, f3, f1⟩ := Cond.arrayOver_spec h
  exact ⟨cA, fun n z => ⟨fun k h => (by cases h), kA, f2, comp, f3⟩, kA, comp, f2, f3, f4, f1⟩
section LawCalls
variable {p : Program} {l : Launch} {e : Env} {R : Room} {s : State} {m : MethodId} {args : Array Value} {below : List Frame} {meth : Method} {c : Code} {H : Heap} {locs : List Loc} {cells slots : Nat} {Q : State → Prop}
theorem zPreSX {D : va_G} {tA : Nat → ClassId} {A : Nat → Prop} {ws wc : va_W} {lim : Nat} {av : List Value} (hh : zH s) (hK : va_K D vwCl (zT tA) s) (h2 : zS2 lim s H) (hP : va_P D vwCl ws H) (hD : va_D A ws) (isC : List Nat) (hn : va_nd isC = true) (hC : isC.map (fun i => ws[i]?) = wc.map some) : PreS s H (va_Pc av (zPreX D tA wc H.size lim)) av :=
  ⟨zBlindX, fun U hU hW => ⟨rfl, ⟨by rw [hU], by rw [hU]; exact zPc hP isC hC, va_K.moved hW.alike hK, (hD.sub isC hn hC).weaken (fun _ _ _ _ => trivial), zH.moved hW hh⟩, by rw [hU]; exact h2.moved hW.alike⟩⟩
theorem zPreSXN {D : va_G} {tA : Nat → ClassId} {A : Nat → Prop} {ws wc : va_W} {lim : Nat} {av : List Value} {B T : String} (hh : zH s) (hK : va_K D vwCl (zT tA) s) (h2 : zS2 lim s H) (hN : va_Nc B T s) (hP : va_P D vwCl ws H) (hD : va_D A ws) (isC : List Nat) (hn : va_nd isC = true) (hC : isC.map (fun i => ws[i]?) = wc.map some) : PreS s H (va_Pc av (fun U => zPreX D tA wc H.size lim U ∧ va_Nc B T U)) av :=
  ⟨fun a U g mk q => by
    obtain ⟨q0, q1, q2⟩ := q
    exact ⟨q0, (zBlindX a U g mk ⟨q0, q1⟩).2, va_Nc.moved (u := U) (U := U.calling g mk a) (Vm.Alike.refl U.vm) q2⟩,
   fun U hU hW => ⟨rfl, ⟨⟨by rw [hU], by rw [hU]; exact zPc hP isC hC, va_K.moved hW.alike hK, (hD.sub isC hn hC).weaken (fun _ _ _ _ => trivial), zH.moved hW hh⟩, by rw [hU]; exact h2.moved hW.alike⟩, hN.moved hW.alike⟩⟩
/-- a call that leaves all that was there, and may make something -/
theorem zCallpN {post : Int32 → Prop} {D : va_G} {A : Nat → Prop} {ws : va_W} {a : Array Value} {mc ms pc : Nat} {ls : Array Slot} {rest st0 : List Value}
    (hP : va_P D vwCl ws H) (hS : va_S A s.heap H locs) (hA : ∀ q, s.heap.size ≤ q → A q)
    (hr : va_Run p l e R s m args below meth c H locs cells slots mc ms (F0 m pc ls st0) rest (va_Qi (fun r (_ : Unit) => post r) (fun _ _ => True) (va_A [] H.size) a) (va_A [] H.size))
    (kk : ∀ (r : Int32) (H1 : Heap) (locs1 : List Loc), post r → va_P D vwCl ws H1 → va_S A s.heap H1 locs1 → W p l e R s m args below meth c H1 locs1 (cells + mc) (slots + ms) Q (F0 m (pc + 3) ls (.int r :: rest))) :
    W p l e R s m args below meth c H locs cells slots Q (F0 m pc ls st0) := by
  have hn : ∀ q : Nat, va_A [] H.size q → H.size ≤ q := fun q h => h.elim (fun ⟨k, e9, h9⟩ => by simp at h9) id
  have hFc : ∀ q, va_A [] H.size q → A q := fun q h => hA q (Nat.le_trans hS.1 (hn q h))
  refine va_calli hr hS (fun q _ h => hFc q h) hFc (fun r u t H1 locs1 ht hvm hw hB hz1 hk1 hS1 => ?_)
  exact kk r H1 locs1 hw (hP.kept (fun k q hq => hk1 q.1 (va_at.lt (hP k q hq)) (fun h => absurd (hn q.1 h) (Nat.not_le.mpr (va_at.lt (hP k q hq)))))) hS1
end LawCalls
