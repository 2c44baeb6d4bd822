/-! The law's arms over both objects. -/
section LBR
variable {G : mG} {t a o b N n B0 B1 : Nat} {i : Int} {Nx : tP9} {xs : Int → Int} {M : mM} {Q : Option mV → mM → Prop}
/-- what goes on behind an arm -/
def LNX (G : mG) (b t a o N : Nat) (xs : Int → Int) (B0 B1 n : Nat) (i : Int) (Q : Option mV → mM → Prop) : Prop := ∀ (Nx : tP9) (M2 : mM), IV o a b N xs t B0 B1 (n + 1) Nx Nx M2 → LPx G 39 b t a o i Q M2
/-- what the law's start gives to all calls -/
def LHy (G : mG) : Prop := TH G ∧ FMs G ∧ NSx G kwx ∧ WKx G kwx ∧ va_Nc "java/lang/IllegalStateException" "java/lang/IllegalArgumentException" (gS G)
theorem br_0 (hL : LHy G) (hn : n ≤ 1000) (h : IV o a b N xs t B0 B1 n Nx Nx M) (hx : ∀ j, i32 (xs j)) (hi : 0 ≤ i ∧ i + 6 ≤ N) (K : LNX G b t a o N xs B0 B1 n i Q) : mWm G y_La_law 40 164 (LL b t a o i) [] M Q := by
  obtain ⟨hT, hF, hS, hW, hN⟩ := hL
  obtain ⟨C, Ps, Pc, h⟩ := h
  refine ar_0 (d := 39) h.scr hi h.kt ?_
  refine (c_CA_feed (d := 37) (hx _) (hx _) (hx _) (hx _) (hx _) h.1).mono (fun r1 M1 q => ?_)
  obtain ⟨qi, c8, ⟨qs, qx⟩, qc⟩ := q
  have c82 : c8.2 = Nx.2.2 := by
    rcases qc with ⟨-, -, -, a4⟩ | ⟨-, -, -, a4⟩ <;> rw [a4]
  have xc8 : XC c8.2 M1 t := by
    rw [c82]
    exact h.2.2.1.2.xc qx
  obtain ⟨v, sc, k14⟩ := h.cls (qs.cs (Nn := (mI M1 t 1, c8)) (o := o) ⟨rfl, xc8⟩)
  refine ⟨sc, k14, ?_⟩
  have v2 := v
  obtain ⟨C1, Ps1, Pc1, v1⟩ := v2
  refine (r_MM_feed (d := 37) (v := fun k => match k with | 0 => xs (i + 1) | 1 => xs (i + 2) | 2 => xs (i + 3) | 3 => xs (i + 4) | _ => xs (i + 5)) (fun k => by split <;> exact hx _) v1.2.1).mz.mono (fun r2 M2 q2 => ?_)
  obtain ⟨⟨n1, q3, q4⟩, q5⟩ := q2
  have w := v.ref q3.2.1 q3.2.2.1 q5.2
  have tp := h.2.2.1.1
  have e : r1 = r2 ∧ (mI M1 t 1, c8) = n1 := by
    have q6 := qc
    rw [tp] at q6
    rcases q6 with ⟨a1, a2, a3, a4⟩ | ⟨a1, a2, a3, a4⟩ <;> rcases q4 with ⟨b1, b2, b3⟩ | ⟨b1, b2, b3⟩
    · exfalso
      omega
    · refine ⟨by omega, ?_⟩
      rw [b3, a3, a4]
    · refine ⟨by omega, ?_⟩
      rw [b3, a3, a4]
      have er : r1 = r2 := by omega
      rw [er]
      rfl
    · exfalso
      omega
  rw [e.2] at w
  exact K _ M2 w
theorem br_1 (hL : LHy G) (hn : n ≤ 1000) (h : IV o a b N xs t B0 B1 n Nx Nx M) (hx : ∀ j, i32 (xs j)) (hi : 0 ≤ i ∧ i + 6 ≤ N) (K : LNX G b t a o N xs B0 B1 n i Q) : mWm G y_La_law 40 237 (LL b t a o i) [] M Q := by
  obtain ⟨hT, hF, hS, hW, hN⟩ := hL
  obtain ⟨C, Ps, Pc, h⟩ := h
  refine ar_1 (d := 39) h.scr hi ?_
  refine (hp_end hT (hx _) h).mono (fun r M1 q => ?_)
  obtain ⟨v, sc, k14⟩ := h.cls q
  refine ⟨sc, k14, ?_⟩
  have v2 := v
  obtain ⟨C1, Ps1, Pc1, v1⟩ := v2
  refine (r_MM_end (d := 39) (hx _) v1.2.1).mz.mono (fun r2 M2 q2 => ?_)
  obtain ⟨⟨n1, q3, q4⟩, q5⟩ := q2
  have w := v.ref q3.2.1 q3.2.2.1 q5.2
  have e : ((if 0 ≤ xs (i + 1) ∧ xs (i + 1) ≤ 20 ∧ 20 ≤ Nx.1 then Nx.1 - 20 + xs (i + 1) else Nx.1, Nx.2) : tP9) = n1 := by
    rcases q4 with y | y
    · rw [if_pos ⟨y.1, y.2.1, y.2.2.1⟩, y.2.2.2]
    · rw [if_neg y.1, y.2]
  rw [e] at w
  exact K _ M2 w
theorem br_2 (hL : LHy G) (hn : n ≤ 1000) (h : IV o a b N xs t B0 B1 n Nx Nx M) (hx : ∀ j, i32 (xs j)) (hi : 0 ≤ i ∧ i + 6 ≤ N) (K : LNX G b t a o N xs B0 B1 n i Q) : mWm G y_La_law 40 265 (LL b t a o i) [] M Q := by
  obtain ⟨hT, hF, hS, hW, hN⟩ := hL
  obtain ⟨C, Ps, Pc, h⟩ := h
  refine ar_2 (d := 39) h.scr hi h.kt ?_
  refine (c_CA_compile (d := 30) hS h.1 h.2.2.1.2).mono (fun r M1 q => ?_)
  obtain ⟨qi, c8, ⟨q1, qX⟩, q2, q3, q4, q5⟩ := q
  obtain ⟨v, sc, k14⟩ := h.cls (q1.cs (Nn := (0, c8)) (o := o) ⟨q2, qX⟩)
  refine ⟨sc, k14, ?_⟩
  have v2 := v
  obtain ⟨C1, Ps1, Pc1, v1⟩ := v2
  refine (r_MM_compile (d := 27) hW v1.2.1).mz.mono (fun r2 M2 p2 => ?_)
  obtain ⟨⟨i8, ⟨⟨p3, p4, p5⟩, p6⟩, p7⟩, p8⟩ := p2
  have w := v.ref (p4.z Nx.2.1) p5 p8.2
  have tp := h.2.2.1.1
  rw [tp] at q4
  obtain ⟨e1, e2, e4⟩ := same_ans q4 p6
  have e3 : c8.2 = i8 := by
    rcases q5 with ⟨a1, a2⟩ | ⟨a1, a2, a3, a4⟩
    · rcases p7 with ⟨b1, b2⟩ | ⟨b1, b2, b3, b4⟩
      · rw [a2, b2, e4 a1]
      · exact absurd (e1.trans b1) a1
    · rcases p7 with ⟨b1, b2⟩ | ⟨b1, b2, b3, b4⟩
      · exact absurd (e1.symm.trans a1) b1
      · have ee := e2 a1
        have f1 : c8.2.2.1 = i8.2.1 := congrArg (fun z => z.1) ee
        have f2 : c8.2.2.2.1 = i8.2.2.1 := congrArg (fun z => z.2.1) ee
        have f3 : c8.2.2.2.2.1 = i8.2.2.2.1 := congrArg (fun z => z.2.2.1) ee
        have f4 : c8.2.2.2.2.2.1 = i8.2.2.2.2.1 := congrArg (fun z => z.2.2.2) ee
        exact Prod.ext (a2.trans b2.symm) (Prod.ext f1 (Prod.ext f2 (Prod.ext f3 (Prod.ext f4 (a3.trans b3.symm)))))
  have e : ((0, c8) : tP9) = (0, Nx.2.1, i8) := Prod.ext rfl (Prod.ext q3 e3)
  rw [e] at w
  exact K _ M2 w
theorem br_3 (hL : LHy G) (hn : n ≤ 1000) (h : IV o a b N xs t B0 B1 n Nx Nx M) (hx : ∀ j, i32 (xs j)) (hi : 0 ≤ i ∧ i + 6 ≤ N) (K : LNX G b t a o N xs B0 B1 n i Q) : mWm G y_La_law 40 278 (LL b t a o i) [] M Q := by
  obtain ⟨hT, hF, hS, hW, hN⟩ := hL
  obtain ⟨C, Ps, Pc, h⟩ := h
  refine ar_3 (d := 39) h.scr hi h.kt ?_
  refine (c_CA_place (d := 39)  h.1).mono (fun r M1 q => ?_)
  obtain ⟨v, sc, k14⟩ := h.cls (q.2.1.cs (o := o) h.2.2.1)
  refine ⟨sc, k14, ?_⟩
  have v2 := v
  obtain ⟨C1, Ps1, Pc1, v1⟩ := v2
  refine (r_MM_place1 (d := 39)  v1.2.1).mz.mono (fun r2 M2 q2 => ?_)
  exact K _ M2 (v.ref q2.1.1.2.1 q2.1.1.2.2.1 q2.2.2)
theorem br_4 (hL : LHy G) (hn : n ≤ 1000) (h : IV o a b N xs t B0 B1 n Nx Nx M) (hx : ∀ j, i32 (xs j)) (hi : 0 ≤ i ∧ i + 6 ≤ N) (K : LNX G b t a o N xs B0 B1 n i Q) : mWm G y_La_law 40 291 (LL b t a o i) [] M Q := by
  obtain ⟨hT, hF, hS, hW, hN⟩ := hL
  obtain ⟨C, Ps, Pc, h⟩ := h
  refine ar_4 (d := 39) h.scr hi h.kt ?_
  refine (c_CA_items (d := 39) (hx _) h.1).mono (fun r M1 q => ?_)
  obtain ⟨v, sc, k14⟩ := h.cls (q.2.1.cs (o := o) h.2.2.1)
  refine ⟨sc, k14, ?_⟩
  have v2 := v
  obtain ⟨C1, Ps1, Pc1, v1⟩ := v2
  refine (r_MM_items1 (d := 39) (hx _) v1.2.1).mz.mono (fun r2 M2 q2 => ?_)
  exact K _ M2 (v.ref q2.1.1.2.1 q2.1.1.2.2.1 q2.2.2)
theorem br_5 (hL : LHy G) (hn : n ≤ 1000) (h : IV o a b N xs t B0 B1 n Nx Nx M) (hx : ∀ j, i32 (xs j)) (hi : 0 ≤ i ∧ i + 6 ≤ N) (K : LNX G b t a o N xs B0 B1 n i Q) : mWm G y_La_law 40 316 (LL b t a o i) [] M Q := by
  obtain ⟨hT, hF, hS, hW, hN⟩ := hL
  obtain ⟨C, Ps, Pc, h⟩ := h
  refine ar_5 (d := 39) h.scr hi ?_
  refine (hp_explore hT hF hn h).mono (fun r1 M1 q => ?_)
  obtain ⟨Nn, q, hq⟩ := q
  obtain ⟨v, sc, k14⟩ := h.cls q
  refine ⟨sc, k14, ?_⟩
  have v2 := v
  obtain ⟨C1, Ps1, Pc1, v1⟩ := v2
  refine (r_MM_explore (d := 29) v1.2.1).mz.mono (fun r2 M2 q2 => ?_)
  obtain ⟨⟨n1, q3, q4⟩, q5⟩ := q2
  have w := v.ref q3.2.1 q3.2.2 q5.2
  have ka2 : mK M2 a = 14 := q3.2.1.2.1.1.1
  have oo := v1.2.2.2.2.2.1
  have fo := q3.2.2.2.1 o oo.2.2.1
  have fl := (q3.2.2.2.2.1 o oo.2.2.1 oo.2.2.2).2.2
  have i0 := (q3.2.1.1 a 0).1
  have ir2 := q3.1
  refine ⟨ka2, (s_MM_thrown (d := 39) ka2).mono (fun r3 M3 q6 => ?_)⟩
  obtain ⟨e6, e7⟩ := q6
  rw [e6]
  have e : Nn = n1 := by
    rcases hq with ⟨-, z2, z3, -⟩ | ⟨-, z2, z3⟩
    · rcases q4 with ⟨y1, -⟩ | ⟨-, y2, -⟩
      · exact absurd y1 z2
      · rw [z3, y2]
    · rcases q4 with ⟨-, y2, -⟩ | ⟨y1, -⟩
      · rw [z3, y2]
      · exact absurd z2 y1
  rw [e] at w
  have kk := K _ M2 w
  rcases hq with ⟨z1, z2, -, z3⟩ | ⟨z1, z2, -⟩
  · rcases q4 with ⟨y1, -⟩ | ⟨y1, -, y2, y3⟩
    · exact absurd y1 z2
    · exact ⟨⟨by rw [z1]; exact i32_0, by rw [e7]; exact i0, by rw [e7, y3, z1]⟩, fun _ => ⟨⟨by rw [fo.1]; exact oo.1, by rw [fo.2]; exact oo.2.1⟩, ir2, by rw [fl, z3, y2]⟩, kk⟩
  · rcases q4 with ⟨y1, -, y2⟩ | ⟨y1, -⟩
    · exact ⟨⟨by rw [z1]; exact ⟨by decide, by decide⟩, by rw [e7]; exact i0, by rw [e7, y2, z1]⟩, fun u => absurd (z1.symm.trans u) (by decide), kk⟩
    · exact absurd z2 y1
theorem br_6 (hL : LHy G) (hn : n ≤ 1000) (h : IV o a b N xs t B0 B1 n Nx Nx M) (hx : ∀ j, i32 (xs j)) (hi : 0 ≤ i ∧ i + 6 ≤ N) (K : LNX G b t a o N xs B0 B1 n i Q) : mWm G y_La_law 40 360 (LL b t a o i) [] M Q := by
  obtain ⟨hT, hF, hS, hW, hN⟩ := hL
  obtain ⟨C, Ps, Pc, h⟩ := h
  refine ar_6 (d := 39) h.scr hi h.kt ?_
  refine (c_CA_state (d := 39)  h.1).mono (fun r M1 q => ?_)
  obtain ⟨v, sc, k14⟩ := h.cls (q.2.1.cs (o := o) h.2.2.1)
  refine ⟨sc, k14, ?_⟩
  have v2 := v
  obtain ⟨C1, Ps1, Pc1, v1⟩ := v2
  refine (r_MM_state1 (d := 39)  v1.2.1).mz.mono (fun r2 M2 q2 => ?_)
  exact K _ M2 (v.ref q2.1.1.2.1 q2.1.1.2.2.1 q2.2.2)
theorem br_7 (hL : LHy G) (hn : n ≤ 1000) (h : IV o a b N xs t B0 B1 n Nx Nx M) (hx : ∀ j, i32 (xs j)) (hi : 0 ≤ i ∧ i + 6 ≤ N) (K : LNX G b t a o N xs B0 B1 n i Q) : mWm G y_La_law 40 373 (LL b t a o i) [] M Q := by
  obtain ⟨hT, hF, hS, hW, hN⟩ := hL
  obtain ⟨C, Ps, Pc, h⟩ := h
  refine ar_7 (d := 39) h.scr hi h.kt ?_
  refine (c_CA_states (d := 39)  h.1).mono (fun r M1 q => ?_)
  obtain ⟨v, sc, k14⟩ := h.cls (q.2.1.cs (o := o) h.2.2.1)
  refine ⟨sc, k14, ?_⟩
  have v2 := v
  obtain ⟨C1, Ps1, Pc1, v1⟩ := v2
  refine (r_MM_states (d := 39)  v1.2.1).mz.mono (fun r2 M2 q2 => ?_)
  exact K _ M2 (v.ref q2.1.1.2.1 q2.1.1.2.2.1 q2.2.2)
theorem br_8 (hL : LHy G) (hn : n ≤ 1000) (h : IV o a b N xs t B0 B1 n Nx Nx M) (hx : ∀ j, i32 (xs j)) (hi : 0 ≤ i ∧ i + 6 ≤ N) (K : LNX G b t a o N xs B0 B1 n i Q) : mWm G y_La_law 40 386 (LL b t a o i) [] M Q := by
  obtain ⟨hT, hF, hS, hW, hN⟩ := hL
  obtain ⟨C, Ps, Pc, h⟩ := h
  refine ar_8 (d := 39) h.scr hi ?_
  refine (hp_variable hT (hx _) (hx _) h).mono (fun r M1 q => ?_)
  obtain ⟨v, sc, k14⟩ := h.cls q.1
  refine ⟨sc, k14, ?_⟩
  have v2 := v
  obtain ⟨C1, Ps1, Pc1, v1⟩ := v2
  refine (e_MM_variable (d := 39) (hx _) (hx _) v1.2.1).mz.mono (fun r2 M2 q2 => ?_)
  exact K _ M2 (v.ref q2.1.1.2.1 q2.1.1.2.2.1 q2.2.2)
theorem br_9 (hL : LHy G) (hn : n ≤ 1000) (h : IV o a b N xs t B0 B1 n Nx Nx M) (hx : ∀ j, i32 (xs j)) (hi : 0 ≤ i ∧ i + 6 ≤ N) (K : LNX G b t a o N xs B0 B1 n i Q) : mWm G y_La_law 40 426 (LL b t a o i) [] M Q := by
  obtain ⟨hT, hF, hS, hW, hN⟩ := hL
  obtain ⟨C, Ps, Pc, h⟩ := h
  refine ar_9 (d := 39) h.scr hi h.kt ?_
  refine (e_CA_kind (d := 38) (hx _) h.1 h.2.2.1.2).mono (fun r M1 q => ?_)
  obtain ⟨v, sc, k14⟩ := h.cls (q.2.1.cs (o := o) h.2.2.1)
  refine ⟨sc, k14, ?_⟩
  have v2 := v
  obtain ⟨C1, Ps1, Pc1, v1⟩ := v2
  refine (e_MM_kind (d := 38) (hx _) v1.2.1).mz.mono (fun r2 M2 q2 => ?_)
  exact K _ M2 (v.ref q2.1.1.2.1 q2.1.1.2.2.1 q2.2.2)
theorem br_10 (hL : LHy G) (hn : n ≤ 1000) (h : IV o a b N xs t B0 B1 n Nx Nx M) (hx : ∀ j, i32 (xs j)) (hi : 0 ≤ i ∧ i + 6 ≤ N) (K : LNX G b t a o N xs B0 B1 n i Q) : mWm G y_La_law 40 451 (LL b t a o i) [] M Q := by
  obtain ⟨hT, hF, hS, hW, hN⟩ := hL
  obtain ⟨C, Ps, Pc, h⟩ := h
  refine ar_10 (d := 39) h.scr hi h.kt ?_
  refine (e_CA_commands (d := 38) (hx _) h.1 h.2.2.1.2).mono (fun r M1 q => ?_)
  obtain ⟨v, sc, k14⟩ := h.cls (q.2.1.cs (o := o) h.2.2.1)
  refine ⟨sc, k14, ?_⟩
  have v2 := v
  obtain ⟨C1, Ps1, Pc1, v1⟩ := v2
  refine (e_MM_commands (d := 38) (hx _) v1.2.1).mz.mono (fun r2 M2 q2 => ?_)
  exact K _ M2 (v.ref q2.1.1.2.1 q2.1.1.2.2.1 q2.2.2)
theorem br_11 (hL : LHy G) (hn : n ≤ 1000) (h : IV o a b N xs t B0 B1 n Nx Nx M) (hx : ∀ j, i32 (xs j)) (hi : 0 ≤ i ∧ i + 6 ≤ N) (K : LNX G b t a o N xs B0 B1 n i Q) : mWm G y_La_law 40 476 (LL b t a o i) [] M Q := by
  obtain ⟨hT, hF, hS, hW, hN⟩ := hL
  obtain ⟨C, Ps, Pc, h⟩ := h
  refine ar_11 (d := 39) h.scr hi h.kt ?_
  refine (e_CA_command (d := 37) (hx _) (hx _) h.1 h.2.2.1.2).mono (fun r M1 q => ?_)
  obtain ⟨v, sc, k14⟩ := h.cls (q.2.1.cs (o := o) h.2.2.1)
  refine ⟨sc, k14, ?_⟩
  have v2 := v
  obtain ⟨C1, Ps1, Pc1, v1⟩ := v2
  refine (r_MM_command (d := 37) (hx _) (hx _) v1.2.1).mz.mono (fun r2 M2 q2 => ?_)
  exact K _ M2 (v.ref q2.1.2.1 q2.1.2.2.1 q2.2.2)
theorem br_12 (hL : LHy G) (hn : n ≤ 1000) (h : IV o a b N xs t B0 B1 n Nx Nx M) (hx : ∀ j, i32 (xs j)) (hi : 0 ≤ i ∧ i + 6 ≤ N) (K : LNX G b t a o N xs B0 B1 n i Q) : mWm G y_La_law 40 513 (LL b t a o i) [] M Q := by
  obtain ⟨hT, hF, hS, hW, hN⟩ := hL
  obtain ⟨C, Ps, Pc, h⟩ := h
  refine ar_12 (d := 39) h.scr hi h.kt ?_
  refine (e_CA_branches (d := 37) (hx _) (hx _) h.1 h.2.2.1.2).mono (fun r M1 q => ?_)
  obtain ⟨v, sc, k14⟩ := h.cls (q.2.1.cs (o := o) h.2.2.1)
  refine ⟨sc, k14, ?_⟩
  have v2 := v
  obtain ⟨C1, Ps1, Pc1, v1⟩ := v2
  refine (e_MM_branches (d := 37) (hx _) (hx _) v1.2.1).mz.mono (fun r2 M2 q2 => ?_)
  exact K _ M2 (v.ref q2.1.1.2.1 q2.1.1.2.2.1 q2.2.2)
theorem br_13 (hL : LHy G) (hn : n ≤ 1000) (h : IV o a b N xs t B0 B1 n Nx Nx M) (hx : ∀ j, i32 (xs j)) (hi : 0 ≤ i ∧ i + 6 ≤ N) (K : LNX G b t a o N xs B0 B1 n i Q) : mWm G y_La_law 40 550 (LL b t a o i) [] M Q := by
  obtain ⟨hT, hF, hS, hW, hN⟩ := hL
  obtain ⟨C, Ps, Pc, h⟩ := h
  refine ar_13 (d := 39) h.scr hi h.kt ?_
  refine (e_CA_branch (d := 37) (hx _) (hx _) (hx _) (hx _) h.1 h.2.2.1.2).mono (fun r M1 q => ?_)
  obtain ⟨v, sc, k14⟩ := h.cls (q.2.1.cs (o := o) h.2.2.1)
  refine ⟨sc, k14, ?_⟩
  have v2 := v
  obtain ⟨C1, Ps1, Pc1, v1⟩ := v2
  refine (e_MM_branch1 (d := 37) (hx _) (hx _) (hx _) (hx _) v1.2.1).mz.mono (fun r2 M2 q2 => ?_)
  exact K _ M2 (v.ref q2.1.1.1 q2.1.1.2.1 q2.2.2)
theorem br_14 (hL : LHy G) (hn : n ≤ 1000) (h : IV o a b N xs t B0 B1 n Nx Nx M) (hx : ∀ j, i32 (xs j)) (hi : 0 ≤ i ∧ i + 6 ≤ N) (K : LNX G b t a o N xs B0 B1 n i Q) : mWm G y_La_law 40 611 (LL b t a o i) [] M Q := by
  obtain ⟨hT, hF, hS, hW, hN⟩ := hL
  obtain ⟨C, Ps, Pc, h⟩ := h
  refine ar_14 (d := 39) h.scr hi ?_
  refine (hp_solve hT h).mono (fun r M1 q => ?_)
  obtain ⟨Nn, q, hq⟩ := q
  obtain ⟨v, sc, k14⟩ := h.cls q
  refine ⟨sc, k14, ?_⟩
  have v2 := v
  obtain ⟨C1, Ps1, Pc1, v1⟩ := v2
  refine (r_MM_solve (d := 28)  v1.2.1).mz.mono (fun r2 M2 q2 => ?_)
  obtain ⟨⟨n1, q3, q4⟩, q5⟩ := q2
  have w := v.ref q3.2.1 q3.2.2 q5.2
  have e : Nn = n1 := by
    rcases hq with ⟨-, z2, z3, z4⟩ | ⟨-, z2, z3⟩
    · rcases q4 with ⟨y1, -⟩ | ⟨-, y2, -, y4, y5⟩
      · exact absurd y1 z2
      · rw [z3, y2, (z4 y4).same y5]
    · rcases q4 with ⟨-, y2, -⟩ | ⟨y1, -⟩
      · rw [z3, y2]
      · exact absurd z2 y1
  rw [e] at w
  exact K _ M2 w
theorem br_15 (hL : LHy G) (hn : n ≤ 1000) (h : IV o a b N xs t B0 B1 n Nx Nx M) (hx : ∀ j, i32 (xs j)) (hi : 0 ≤ i ∧ i + 6 ≤ N) (K : LNX G b t a o N xs B0 B1 n i Q) : mWm G y_La_law 40 627 (LL b t a o i) [] M Q := by
  obtain ⟨hT, hF, hS, hW, hN⟩ := hL
  obtain ⟨C, Ps, Pc, h⟩ := h
  refine ar_15 (d := 39) h.scr hi ?_
  refine (hp_within hT hN (hx _) h).mono (fun r M1 q => ?_)
  obtain ⟨v, sc, k14⟩ := h.cls q.1
  refine ⟨sc, k14, ?_⟩
  have v2 := v
  obtain ⟨C1, Ps1, Pc1, v1⟩ := v2
  refine (r_MM_within (d := 31) (hx _) v1.2.1).mz.mono (fun r2 M2 q2 => ?_)
  exact K _ M2 (v.ref q2.1.1.2.1 q2.1.1.2.2.1 q2.2.2)
theorem br_16 (hL : LHy G) (hn : n ≤ 1000) (h : IV o a b N xs t B0 B1 n Nx Nx M) (hx : ∀ j, i32 (xs j)) (hi : 0 ≤ i ∧ i + 6 ≤ N) (K : LNX G b t a o N xs B0 B1 n i Q) : mWm G y_La_law 40 655 (LL b t a o i) [] M Q := by
  obtain ⟨hT, hF, hS, hW, hN⟩ := hL
  obtain ⟨C, Ps, Pc, h⟩ := h
  refine ar_16 (d := 39) h.scr hi ?_
  refine (hp_choose hT (hx _) (hx _) h).mono (fun r M1 q => ?_)
  obtain ⟨v, sc, k14⟩ := h.cls q.1
  refine ⟨sc, k14, ?_⟩
  have v2 := v
  obtain ⟨C1, Ps1, Pc1, v1⟩ := v2
  refine (e_MM_choose1 (d := 37) (hx _) (hx _) v1.2.1).mz.mono (fun M2 q2 => ?_)
  exact K _ M2 (v.ref q2.1.1.1 q2.1.1.2.1 q2.2.2)
theorem br_17 (hL : LHy G) (hn : n ≤ 1000) (h : IV o a b N xs t B0 B1 n Nx Nx M) (hx : ∀ j, i32 (xs j)) (hi : 0 ≤ i ∧ i + 6 ≤ N) (K : LNX G b t a o N xs B0 B1 n i Q) : mWm G y_La_law 40 692 (LL b t a o i) [] M Q := by
  obtain ⟨hT, hF, hS, hW, hN⟩ := hL
  obtain ⟨C, Ps, Pc, h⟩ := h
  refine ar_17 (d := 39) h.scr hi ?_
  refine (hp_adopt hT h).mono (fun r M1 q => ?_)
  obtain ⟨v, sc, k14⟩ := h.cls q.1
  refine ⟨sc, k14, ?_⟩
  have v2 := v
  obtain ⟨C1, Ps1, Pc1, v1⟩ := v2
  refine (r_MM_adopt (d := 37)  v1.2.1).mz.mono (fun M2 q2 => ?_)
  exact K _ M2 (v.ref q2.1.1.1 q2.1.1.2.1 q2.2.2)
theorem br_18 (hL : LHy G) (hn : n ≤ 1000) (h : IV o a b N xs t B0 B1 n Nx Nx M) (hx : ∀ j, i32 (xs j)) (hi : 0 ≤ i ∧ i + 6 ≤ N) (K : LNX G b t a o N xs B0 B1 n i Q) : mWm G y_La_law 40 705 (LL b t a o i) [] M Q := by
  obtain ⟨hT, hF, hS, hW, hN⟩ := hL
  obtain ⟨C, Ps, Pc, h⟩ := h
  refine ar_18 (d := 39) h.scr hi ?_
  refine (hp_judge hT hN (hx _) h).mono (fun r M1 q => ?_)
  obtain ⟨v, sc, k14⟩ := h.cls q
  refine ⟨sc, k14, ?_⟩
  have v2 := v
  obtain ⟨C1, Ps1, Pc1, v1⟩ := v2
  refine (r_MM_judge (d := 28) (hx _) v1.2.1).mz.mono (fun r2 M2 q2 => ?_)
  exact K _ M2 (v.ref q2.1.2.1 q2.1.2.2.1 q2.2.2)
theorem br_19 (hL : LHy G) (hn : n ≤ 1000) (h : IV o a b N xs t B0 B1 n Nx Nx M) (hx : ∀ j, i32 (xs j)) (hi : 0 ≤ i ∧ i + 6 ≤ N) (K : LNX G b t a o N xs B0 B1 n i Q) : mWm G y_La_law 40 733 (LL b t a o i) [] M Q := by
  obtain ⟨hT, hF, hS, hW, hN⟩ := hL
  obtain ⟨C, Ps, Pc, h⟩ := h
  refine ar_19 (d := 39) h.scr hi h.kt ?_
  refine (c_CA_print (d := 33) (hx _) (hx _) h.1).mono (fun r M1 q => ?_)
  obtain ⟨v, sc, k14⟩ := h.cls (q.2.cs (o := o) h.2.2.1)
  refine ⟨sc, k14, ?_⟩
  have v2 := v
  obtain ⟨C1, Ps1, Pc1, v1⟩ := v2
  refine (r_MM_print (d := 34) (hx _) (hx _) v1.2.1).mz.mono (fun r2 M2 q2 => ?_)
  exact K _ M2 (v.ref q2.1.2.1 q2.1.2.2.1 q2.2.2)
theorem br_20 (hL : LHy G) (hn : n ≤ 1000) (h : IV o a b N xs t B0 B1 n Nx Nx M) (hx : ∀ j, i32 (xs j)) (hi : 0 ≤ i ∧ i + 6 ≤ N) (K : LNX G b t a o N xs B0 B1 n i Q) : mWm G y_La_law 40 770 (LL b t a o i) [] M Q := by
  obtain ⟨hT, hF, hS, hW, hN⟩ := hL
  obtain ⟨C, Ps, Pc, h⟩ := h
  refine ar_20 (d := 39) h.scr hi h.kt ?_
  refine (c_CA_character (d := 39) (hx _) h.1).mono (fun r M1 q => ?_)
  obtain ⟨v, sc, k14⟩ := h.cls (q.2.cs (o := o) h.2.2.1)
  refine ⟨sc, k14, ?_⟩
  have v2 := v
  obtain ⟨C1, Ps1, Pc1, v1⟩ := v2
  refine (r_MM_character (d := 39) (hx _) v1.2.1).mz.mono (fun r2 M2 q2 => ?_)
  exact K _ M2 (v.ref q2.1.2.1 q2.1.2.2.1 q2.2.2)
theorem br_21 (hL : LHy G) (hn : n ≤ 1000) (h : IV o a b N xs t B0 B1 n Nx Nx M) (hx : ∀ j, i32 (xs j)) (hi : 0 ≤ i ∧ i + 6 ≤ N) (K : LNX G b t a o N xs B0 B1 n i Q) : mWm G y_La_law 40 795 (LL b t a o i) [] M Q := by
  obtain ⟨hT, hF, hS, hW, hN⟩ := hL
  obtain ⟨C, Ps, Pc, h⟩ := h
  refine ar_21 (d := 39) h.scr hi h.kt ?_
  refine (c_CA_compare (d := 33) (hx _) (hx _) (hx _) (hx _) h.1).mono (fun r M1 q => ?_)
  obtain ⟨v, sc, k14⟩ := h.cls (q.2.cs (o := o) h.2.2.1)
  refine ⟨sc, k14, ?_⟩
  have v2 := v
  obtain ⟨C1, Ps1, Pc1, v1⟩ := v2
  refine (r_MM_compare (d := 35) (hx _) (hx _) (hx _) (hx _) v1.2.1).mz.mono (fun r2 M2 q2 => ?_)
  exact K _ M2 (v.ref q2.1.2.1 q2.1.2.2.1 q2.2.2)
theorem br_22 (hL : LHy G) (hn : n ≤ 1000) (h : IV o a b N xs t B0 B1 n Nx Nx M) (hx : ∀ j, i32 (xs j)) (hi : 0 ≤ i ∧ i + 6 ≤ N) (K : LNX G b t a o N xs B0 B1 n i Q) : mWm G y_La_law 40 856 (LL b t a o i) [] M Q := by
  obtain ⟨hT, hF, hS, hW, hN⟩ := hL
  obtain ⟨C, Ps, Pc, h⟩ := h
  refine ar_22 (d := 39) h.scr hi h.kt ?_
  refine (c_CA_billionths (d := 34) (hx _) (hx _) h.1).mono (fun r M1 q => ?_)
  obtain ⟨v, sc, k14⟩ := h.cls (q.2.cs (o := o) h.2.2.1)
  refine ⟨sc, k14, ?_⟩
  have v2 := v
  obtain ⟨C1, Ps1, Pc1, v1⟩ := v2
  refine (r_MM_billionths (d := 34) (hx _) (hx _) v1.2.1).mz.mono (fun r2 M2 q2 => ?_)
  exact K _ M2 (v.ref q2.1.2.1 q2.1.2.2.1 q2.2.2)
theorem br_23 (hL : LHy G) (hn : n ≤ 1000) (h : IV o a b N xs t B0 B1 n Nx Nx M) (hx : ∀ j, i32 (xs j)) (hi : 0 ≤ i ∧ i + 6 ≤ N) (K : LNX G b t a o N xs B0 B1 n i Q) : mWm G y_La_law 40 893 (LL b t a o i) [] M Q := by
  obtain ⟨hT, hF, hS, hW, hN⟩ := hL
  obtain ⟨C, Ps, Pc, h⟩ := h
  refine ar_23 (d := 39) h.scr hi h.kt ?_
  refine (c_CA_choice (d := 38) (hx _) h.1).mono (fun r M1 q => ?_)
  obtain ⟨v, sc, k14⟩ := h.cls (q.2.cs (o := o) h.2.2.1)
  refine ⟨sc, k14, ?_⟩
  have v2 := v
  obtain ⟨C1, Ps1, Pc1, v1⟩ := v2
  refine (r_MM_choice (d := 38) (hx _) v1.2.1).mz.mono (fun r2 M2 q2 => ?_)
  exact K _ M2 (v.ref q2.1.2.1 q2.1.2.2.1 q2.2.2)
theorem br_24 (hL : LHy G) (hn : n ≤ 1000) (h : IV o a b N xs t B0 B1 n Nx Nx M) (hx : ∀ j, i32 (xs j)) (hi : 0 ≤ i ∧ i + 6 ≤ N) (K : LNX G b t a o N xs B0 B1 n i Q) : mWm G y_La_law 40 918 (LL b t a o i) [] M Q := by
  obtain ⟨hT, hF, hS, hW, hN⟩ := hL
  obtain ⟨C, Ps, Pc, h⟩ := h
  refine ar_24 (d := 39) h.scr hi h.kt ?_
  refine (c_CA_rank (d := 38) (hx _) h.1).mono (fun r M1 q => ?_)
  obtain ⟨v, sc, k14⟩ := h.cls (q.2.cs (o := o) h.2.2.1)
  refine ⟨sc, k14, ?_⟩
  have v2 := v
  obtain ⟨C1, Ps1, Pc1, v1⟩ := v2
  refine (r_MM_rank (d := 38) (hx _) v1.2.1).mz.mono (fun r2 M2 q2 => ?_)
  exact K _ M2 (v.ref q2.1.2.1 q2.1.2.2.1 q2.2.2)
theorem br_25 (hL : LHy G) (hn : n ≤ 1000) (h : IV o a b N xs t B0 B1 n Nx Nx M) (hx : ∀ j, i32 (xs j)) (hi : 0 ≤ i ∧ i + 6 ≤ N) (K : LNX G b t a o N xs B0 B1 n i Q) : mWm G y_La_law 40 943 (LL b t a o i) [] M Q := by
  obtain ⟨hT, hF, hS, hW, hN⟩ := hL
  obtain ⟨C, Ps, Pc, h⟩ := h
  refine ar_25 (d := 39) h.scr hi h.kt ?_
  refine (c_CA_next (d := 37) (hx _) (hx _) h.1).mono (fun r M1 q => ?_)
  obtain ⟨v, sc, k14⟩ := h.cls (q.2.cs (o := o) h.2.2.1)
  refine ⟨sc, k14, ?_⟩
  have v2 := v
  obtain ⟨C1, Ps1, Pc1, v1⟩ := v2
  refine (r_MM_next (d := 37) (hx _) (hx _) v1.2.1).mz.mono (fun r2 M2 q2 => ?_)
  exact K _ M2 (v.ref q2.1.2.1 q2.1.2.2.1 q2.2.2)
theorem br_26 (hL : LHy G) (hn : n ≤ 1000) (h : IV o a b N xs t B0 B1 n Nx Nx M) (hx : ∀ j, i32 (xs j)) (hi : 0 ≤ i ∧ i + 6 ≤ N) (K : LNX G b t a o N xs B0 B1 n i Q) : mWm G y_La_law 40 980 (LL b t a o i) [] M Q := by
  obtain ⟨hT, hF, hS, hW, hN⟩ := hL
  obtain ⟨C, Ps, Pc, h⟩ := h
  refine ar_26 (d := 39) h.scr hi h.kt ?_
  refine (c_CA_check (d := 31)  h.1).mono (fun r M1 q => ?_)
  obtain ⟨v, sc, k14⟩ := h.cls (q.2.cs (o := o) h.2.2.1)
  refine ⟨sc, k14, ?_⟩
  have v2 := v
  obtain ⟨C1, Ps1, Pc1, v1⟩ := v2
  refine (r_MM_check (d := 38)  v1.2.1).mz.mono (fun r2 M2 q2 => ?_)
  exact K _ M2 (v.ref q2.1.2.1 q2.1.2.2.1 q2.2.2)
theorem br_all (hL : LHy G) (hn : n ≤ 1000) (h : IV o a b N xs t B0 B1 n Nx Nx M) (hx : ∀ j, i32 (xs j)) (hi : 0 ≤ i ∧ i + 6 ≤ N) (K : LNX G b t a o N xs B0 B1 n i Q) (k tg : Nat) (e : lawT[k]? = some tg) : mWm G y_La_law 40 tg (LL b t a o i) [] M Q := by
  match k, e with
  | 0, e =>
    have e' : (164 : Nat) = tg := Option.some.inj e
    subst e'
    exact br_0 hL hn h hx hi K
  | 1, e =>
    have e' : (237 : Nat) = tg := Option.some.inj e
    subst e'
    exact br_1 hL hn h hx hi K
  | 2, e =>
    have e' : (265 : Nat) = tg := Option.some.inj e
    subst e'
    exact br_2 hL hn h hx hi K
  | 3, e =>
    have e' : (278 : Nat) = tg := Option.some.inj e
    subst e'
    exact br_3 hL hn h hx hi K
  | 4, e =>
    have e' : (291 : Nat) = tg := Option.some.inj e
    subst e'
    exact br_4 hL hn h hx hi K
  | 5, e =>
    have e' : (316 : Nat) = tg := Option.some.inj e
    subst e'
    exact br_5 hL hn h hx hi K
  | 6, e =>
    have e' : (360 : Nat) = tg := Option.some.inj e
    subst e'
    exact br_6 hL hn h hx hi K
  | 7, e =>
    have e' : (373 : Nat) = tg := Option.some.inj e
    subst e'
    exact br_7 hL hn h hx hi K
  | 8, e =>
    have e' : (386 : Nat) = tg := Option.some.inj e
    subst e'
    exact br_8 hL hn h hx hi K
  | 9, e =>
    have e' : (426 : Nat) = tg := Option.some.inj e
    subst e'
    exact br_9 hL hn h hx hi K
  | 10, e =>
    have e' : (451 : Nat) = tg := Option.some.inj e
    subst e'
    exact br_10 hL hn h hx hi K
  | 11, e =>
    have e' : (476 : Nat) = tg := Option.some.inj e
    subst e'
    exact br_11 hL hn h hx hi K
  | 12, e =>
    have e' : (513 : Nat) = tg := Option.some.inj e
    subst e'
    exact br_12 hL hn h hx hi K
  | 13, e =>
    have e' : (550 : Nat) = tg := Option.some.inj e
    subst e'
    exact br_13 hL hn h hx hi K
  | 14, e =>
    have e' : (611 : Nat) = tg := Option.some.inj e
    subst e'
    exact br_14 hL hn h hx hi K
  | 15, e =>
    have e' : (627 : Nat) = tg := Option.some.inj e
    subst e'
    exact br_15 hL hn h hx hi K
  | 16, e =>
    have e' : (655 : Nat) = tg := Option.some.inj e
    subst e'
    exact br_16 hL hn h hx hi K
  | 17, e =>
    have e' : (692 : Nat) = tg := Option.some.inj e
    subst e'
    exact br_17 hL hn h hx hi K
  | 18, e =>
    have e' : (705 : Nat) = tg := Option.some.inj e
    subst e'
    exact br_18 hL hn h hx hi K
  | 19, e =>
    have e' : (733 : Nat) = tg := Option.some.inj e
    subst e'
    exact br_19 hL hn h hx hi K
  | 20, e =>
    have e' : (770 : Nat) = tg := Option.some.inj e
    subst e'
    exact br_20 hL hn h hx hi K
  | 21, e =>
    have e' : (795 : Nat) = tg := Option.some.inj e
    subst e'
    exact br_21 hL hn h hx hi K
  | 22, e =>
    have e' : (856 : Nat) = tg := Option.some.inj e
    subst e'
    exact br_22 hL hn h hx hi K
  | 23, e =>
    have e' : (893 : Nat) = tg := Option.some.inj e
    subst e'
    exact br_23 hL hn h hx hi K
  | 24, e =>
    have e' : (918 : Nat) = tg := Option.some.inj e
    subst e'
    exact br_24 hL hn h hx hi K
  | 25, e =>
    have e' : (943 : Nat) = tg := Option.some.inj e
    subst e'
    exact br_25 hL hn h hx hi K
  | 26, e =>
    have e' : (980 : Nat) = tg := Option.some.inj e
    subst e'
    exact br_26 hL hn h hx hi K
  | k + 27, e => simp [lawT] at e
/-- the loop -/
theorem la_loop (hL : LHy G) (hx : ∀ j, i32 (xs j)) (hN : N ≤ 3072) (hQ : ∀ n Nx M, n ≤ 512 → IV o a b N xs t B0 B1 n Nx Nx M → Q (some (vi 1)) M) : ∀ (c n : Nat) (Nx : tP9) (M : mM), n + c = 513 → 6 * n ≤ N + 5 → IV o a b N xs t B0 B1 n Nx Nx M → mWm G y_La_law 40 23 (LL b t a o (6 * n : Nat)) [] M Q := by
  intro c
  induction c with
  | zero => intro n Nx M h1 h2 h; omega
  | succ c ih =>
    intro n Nx M h1 h2 h
    by_cases c6 : 6 * n + 6 ≤ N
    · have K : LNX G b t a o N xs B0 B1 n ((6 * n : Nat) : Int) Q := fun Nx' M2 u => by
        refine la_next ?_
        have := ih (n + 1) Nx' M2 (by omega) (by omega) u
        rw [show (((6 * (n + 1) : Nat)) : Int) = ((6 * n : Nat) : Int) + 6 by omega] at this
        exact this
      have hi : (0 : Int) ≤ ((6 * n : Nat) : Int) ∧ ((6 * n : Nat) : Int) + 6 ≤ N := ⟨by omega, by omega⟩
      have sc : Scr b N xs M := by obtain ⟨C, Ps, Pc, h⟩ := h; exact h.scr
      exact la_turn (d := 39) sc (by omega) hi (K Nx M h.up) (fun k tg e => br_all hL (by omega) h hx hi K k tg e)
    · have sc : Scr b N xs M := by obtain ⟨C, Ps, Pc, h⟩ := h; exact h.scr
      exact la_out (d := 39) sc (by omega) ⟨by omega, by omega, by omega⟩ (hQ n Nx M (by omega) h)
end LBR
