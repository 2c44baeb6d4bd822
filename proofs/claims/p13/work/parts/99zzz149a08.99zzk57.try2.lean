/-! The class's game: tryCommand, the whole; lookAt. -/
section GAI
variable {G : mG} {d z g p O P K V F L cnt U w9 Ab Be C Ab0 Be0 C0 s h t c cn k u v cc n bc bc0 x a0 br mu cn0 : Nat} {M0 M M' M1 M2 MB : mM} {ns : Nat → Int} {sf ef : Nat → Nat} {H : Nat → Nat} {S R : Nat → Prop} {sm sh : Int}
/-- between two commands of state k -/
def GQ (M : mM) (g cn k cc bc : Nat) : Prop := (mI M g 0 = ((cn : Nat) : Int) ∧ cn ≤ 512 ∧ SLt M g cn) ∧ mI M g 12 = ((cc : Nat) : Int) ∧ mI M g 13 = ((bc : Nat) : Int) ∧ GT M g cn k cc bc
/-- a run changes nothing of it -/
theorem GQ.eq (hq : GQ M g cn k cc bc) (e : ∀ i, i ≤ 9 ∨ (20 ≤ i ∧ i ≤ 22) → mI M' (g + i) = mI M (g + i)) : GQ M' g cn k cc bc := by
  have e0 := e 0 (by omega)
  rw [Nat.add_zero] at e0
  obtain ⟨⟨q1, q2, q3⟩, q4, q5, q6⟩ := hq
  have e4 := e 4 (by omega)
  have e7 := e 7 (by omega)
  refine ⟨⟨by rw [e0]; exact q1, q2, fun i hi => by rw [e 20 (by omega)]; exact q3 i hi⟩, by rw [e0]; exact q4, by rw [e0]; exact q5, ?_⟩
  obtain ⟨t1, t2, t3, t4, t5, t6, t7, t8⟩ := q6
  exact ⟨t1, t2, fun c hc => (t3 c hc).cg ⟨by rw [e7], by rw [e7]⟩ (by rw [e 6 (by omega)]) (by rw [e 5 (by omega)]) (fun i _ => ⟨by rw [e 8 (by omega)], by rw [e 9 (by omega)]⟩) (Nat.le_refl _) (Nat.le_refl _), by rw [e7]; exact t4, t5, by rw [e4]; exact t6, by rw [e4]; exact t7, by rw [e4]; exact t8⟩
theorem tcQ_eq {M3 : mM} (e : mI MB (g + 10) 9 = mI M3 (g + 10) 9) : tcQ M0 z g p O P K V F ns sf ef L cnt Ab0 Be0 C0 MB k cn = tcQ M0 z g p O P K V F ns sf ef L cnt Ab0 Be0 C0 M3 k cn := by
  funext r M'
  unfold tcQ
  rw [e]
end GAI
