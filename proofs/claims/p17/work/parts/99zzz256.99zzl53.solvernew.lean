/-! The reference's solver under construction. -/
def ini_MS (l : List PR) (o n : Nat) : List PR := uR (pz (uR (ini_MF (pz (uR (ini_MF (pz (uR (ini_MF (pz (uR (ini_MF (pz (uR (ini_MF (pz (uR (pz (uR (pz (uR (pz (uR (pz (uR (pz (uR (pz (uR (pz (uR (pz (uR (pz (uR (pz (uR (pz (uR (pz (uR (pz (uR (pz (uR (pz (uR (pz (uR (pz (uR (pz (uR (pz (uR (pz (uR (ini_MU (pz (l) 18 0) n (n + 1)) o 0 n) 30 513) o 4 (n + 21)) 30 514) o 5 (n + 22)) 30 4200) o 6 (n + 23)) 30 4201) o 7 (n + 24)) 30 4096) o 8 (n + 25)) 30 4096) o 9 (n + 26)) 30 4096) o 10 (n + 27)) 36 1536) o 11 (n + 28)) 31 3) o 12 (n + 29)) 36 512) o 13 (n + 30)) 30 512) o 14 (n + 31)) 30 512) o 15 (n + 32)) 30 512) o 16 (n + 33)) 30 512) o 18 (n + 34)) 31 512) o 19 (n + 35)) 31 512) o 20 (n + 36)) 36 512) o 21 (n + 37)) 30 40) o 22 (n + 38)) 30 512) o 23 (n + 39)) 36 1640) o 25 (n + 40)) 19 0) (n + 41) (n + 42) 8) o 26 (n + 41)) 19 0) (n + 46) (n + 47) 56) o 27 (n + 46)) 19 0) (n + 51) (n + 52) 900) o 28 (n + 51)) 19 0) (n + 56) (n + 57) 900) o 29 (n + 56)) 19 0) (n + 61) (n + 62) 900) o 30 (n + 61)) 30 400) o 31 (n + 66)
theorem ii_MS0 {l : List PR} {n s t o d : Nat} {G : mG} {M0 M : mM} {Q : mM → Prop} (ht : 0 < t) (h : Cst l n s t M0 M) (k : kd l o 17) (H : ∀ M', Cst (ini_MS l o n) (n + 67) (s + 43637) t M0 M' → h_MS_init_275 G (d + 4) (t + o) 0 M' Q) : Cv G y_MS_init (d + 5) [vr (t + o)] M Q := by
  refine k_MS_init (d := d + 4) h.1 ⟨Nat.add_pos_left ht o, ?_⟩
  have g : kmn l l := fun _ _ u => u
  intro M2 eM2
  have hM2 := h.new eM2
  have gM2 := hM2.gg (g.trans kmn.pu)
  rw [h.z]
  refine (ii_MU (d := d + 0) ht hM2 (kd.nw h.len)).mono (fun M4 qM4 => ⟨qM4.1.1, ?_⟩)
  have hM4 := qM4.1
  have gM4 := gM2.trans qM4.2
  clear qM4
  refine ⟨hM4.kq (gM4 _ _ k), ?_⟩
  intro M8 eM8
  have hM8 := hM4.ur (gM4 _ _ k) eM8
  have gM8 := hM8.gg (gM4.trans kmn.ur)
  intro M10 eM10
  have hM10 := hM8.new eM10
  have gM10 := hM10.gg (gM8.trans kmn.pu)
  rw [hM8.z]
  refine ⟨hM10.kq (gM10 _ _ k), ?_⟩
  intro M13 eM13
  have hM13 := hM10.ur (gM10 _ _ k) eM13
  have gM13 := hM13.gg (gM10.trans kmn.ur)
  intro M15 eM15
  have hM15 := hM13.new eM15
  have gM15 := hM15.gg (gM13.trans kmn.pu)
  rw [hM13.z]
  refine ⟨hM15.kq (gM15 _ _ k), ?_⟩
  intro M18 eM18
  have hM18 := hM15.ur (gM15 _ _ k) eM18
  have gM18 := hM18.gg (gM15.trans kmn.ur)
  intro M20 eM20
  have hM20 := hM18.new eM20
  have gM20 := hM20.gg (gM18.trans kmn.pu)
  rw [hM18.z]
  refine ⟨hM20.kq (gM20 _ _ k), ?_⟩
  intro M23 eM23
  have hM23 := hM20.ur (gM20 _ _ k) eM23
  have gM23 := hM23.gg (gM20.trans kmn.ur)
  intro M25 eM25
  have hM25 := hM23.new eM25
  have gM25 := hM25.gg (gM23.trans kmn.pu)
  rw [hM23.z]
  refine ⟨hM25.kq (gM25 _ _ k), ?_⟩
  intro M28 eM28
  have hM28 := hM25.ur (gM25 _ _ k) eM28
  have gM28 := hM28.gg (gM25.trans kmn.ur)
  intro M30 eM30
  have hM30 := hM28.new eM30
  have gM30 := hM30.gg (gM28.trans kmn.pu)
  rw [hM28.z]
  refine ⟨hM30.kq (gM30 _ _ k), ?_⟩
  intro M33 eM33
  have hM33 := hM30.ur (gM30 _ _ k) eM33
  have gM33 := hM33.gg (gM30.trans kmn.ur)
  intro M35 eM35
  have hM35 := hM33.new eM35
  have gM35 := hM35.gg (gM33.trans kmn.pu)
  rw [hM33.z]
  refine ⟨hM35.kq (gM35 _ _ k), ?_⟩
  intro M38 eM38
  have hM38 := hM35.ur (gM35 _ _ k) eM38
  have gM38 := hM38.gg (gM35.trans kmn.ur)
  intro M40 eM40
  have hM40 := hM38.new eM40
  have gM40 := hM40.gg (gM38.trans kmn.pu)
  rw [hM38.z]
  refine ⟨hM40.kq (gM40 _ _ k), ?_⟩
  intro M43 eM43
  have hM43 := hM40.ur (gM40 _ _ k) eM43
  have gM43 := hM43.gg (gM40.trans kmn.ur)
  intro M45 eM45
  have hM45 := hM43.new eM45
  have gM45 := hM45.gg (gM43.trans kmn.pu)
  rw [hM43.z]
  refine ⟨hM45.kq (gM45 _ _ k), ?_⟩
  intro M48 eM48
  have hM48 := hM45.ur (gM45 _ _ k) eM48
  have gM48 := hM48.gg (gM45.trans kmn.ur)
  intro M50 eM50
  have hM50 := hM48.new eM50
  have gM50 := hM50.gg (gM48.trans kmn.pu)
  rw [hM48.z]
  refine ⟨hM50.kq (gM50 _ _ k), ?_⟩
  intro M53 eM53
  have hM53 := hM50.ur (gM50 _ _ k) eM53
  have gM53 := hM53.gg (gM50.trans kmn.ur)
  intro M55 eM55
  have hM55 := hM53.new eM55
  have gM55 := hM55.gg (gM53.trans kmn.pu)
  rw [hM53.z]
  refine ⟨hM55.kq (gM55 _ _ k), ?_⟩
  intro M58 eM58
  have hM58 := hM55.ur (gM55 _ _ k) eM58
  have gM58 := hM58.gg (gM55.trans kmn.ur)
  intro M60 eM60
  have hM60 := hM58.new eM60
  have gM60 := hM60.gg (gM58.trans kmn.pu)
  rw [hM58.z]
  refine ⟨hM60.kq (gM60 _ _ k), ?_⟩
  intro M63 eM63
  have hM63 := hM60.ur (gM60 _ _ k) eM63
  have gM63 := hM63.gg (gM60.trans kmn.ur)
  intro M65 eM65
  have hM65 := hM63.new eM65
  have gM65 := hM65.gg (gM63.trans kmn.pu)
  rw [hM63.z]
  refine ⟨hM65.kq (gM65 _ _ k), ?_⟩
  intro M68 eM68
  have hM68 := hM65.ur (gM65 _ _ k) eM68
  have gM68 := hM68.gg (gM65.trans kmn.ur)
  intro M70 eM70
  have hM70 := hM68.new eM70
  have gM70 := hM70.gg (gM68.trans kmn.pu)
  rw [hM68.z]
  refine ⟨hM70.kq (gM70 _ _ k), ?_⟩
  intro M73 eM73
  have hM73 := hM70.ur (gM70 _ _ k) eM73
  have gM73 := hM73.gg (gM70.trans kmn.ur)
  intro M75 eM75
  have hM75 := hM73.new eM75
  have gM75 := hM75.gg (gM73.trans kmn.pu)
  rw [hM73.z]
  refine ⟨hM75.kq (gM75 _ _ k), ?_⟩
  intro M78 eM78
  have hM78 := hM75.ur (gM75 _ _ k) eM78
  have gM78 := hM78.gg (gM75.trans kmn.ur)
  intro M80 eM80
  have hM80 := hM78.new eM80
  have gM80 := hM80.gg (gM78.trans kmn.pu)
  rw [hM78.z]
  refine ⟨hM80.kq (gM80 _ _ k), ?_⟩
  intro M83 eM83
  have hM83 := hM80.ur (gM80 _ _ k) eM83
  have gM83 := hM83.gg (gM80.trans kmn.ur)
  intro M85 eM85
  have hM85 := hM83.new eM85
  have gM85 := hM85.gg (gM83.trans kmn.pu)
  rw [hM83.z]
  refine ⟨hM85.kq (gM85 _ _ k), ?_⟩
  intro M88 eM88
  have hM88 := hM85.ur (gM85 _ _ k) eM88
  have gM88 := hM88.gg (gM85.trans kmn.ur)
  intro M90 eM90
  have hM90 := hM88.new eM90
  have gM90 := hM90.gg (gM88.trans kmn.pu)
  rw [hM88.z]
  refine ⟨hM90.kq (gM90 _ _ k), ?_⟩
  intro M93 eM93
  have hM93 := hM90.ur (gM90 _ _ k) eM93
  have gM93 := hM93.gg (gM90.trans kmn.ur)
  intro M95 eM95
  have hM95 := hM93.new eM95
  have gM95 := hM95.gg (gM93.trans kmn.pu)
  rw [hM93.z]
  refine ⟨hM95.kq (gM95 _ _ k), ?_⟩
  intro M98 eM98
  have hM98 := hM95.ur (gM95 _ _ k) eM98
  have gM98 := hM98.gg (gM95.trans kmn.ur)
  intro M100 eM100
  have hM100 := hM98.new eM100
  have gM100 := hM100.gg (gM98.trans kmn.pu)
  rw [hM98.z]
  refine ⟨hM100.kq (gM100 _ _ k), ?_⟩
  intro M103 eM103
  have hM103 := hM100.ur (gM100 _ _ k) eM103
  have gM103 := hM103.gg (gM100.trans kmn.ur)
  intro M105 eM105
  have hM105 := hM103.new eM105
  have gM105 := hM105.gg (gM103.trans kmn.pu)
  rw [hM103.z]
  refine ⟨hM105.kq (gM105 _ _ k), ?_⟩
  intro M108 eM108
  have hM108 := hM105.ur (gM105 _ _ k) eM108
  have gM108 := hM108.gg (gM105.trans kmn.ur)
  intro M110 eM110
  have hM110 := hM108.new eM110
  have gM110 := hM110.gg (gM108.trans kmn.pu)
  rw [hM108.z]
  refine (ii_MF (d := d + 1) (r := 8) rfl (by decide) ht hM110 (kd.nw hM108.len)).mono (fun M112 qM112 => ⟨qM112.1.1, ?_⟩)
  have hM112 := qM112.1
  have gM112 := gM110.trans qM112.2
  clear qM112
  refine ⟨hM112.kq (gM112 _ _ k), ?_⟩
  intro M116 eM116
  have hM116 := hM112.ur (gM112 _ _ k) eM116
  have gM116 := hM116.gg (gM112.trans kmn.ur)
  intro M118 eM118
  have hM118 := hM116.new eM118
  have gM118 := hM118.gg (gM116.trans kmn.pu)
  rw [hM116.z]
  refine (ii_MF (d := d + 1) (r := 56) rfl (by decide) ht hM118 (kd.nw hM116.len)).mono (fun M120 qM120 => ⟨qM120.1.1, ?_⟩)
  have hM120 := qM120.1
  have gM120 := gM118.trans qM120.2
  clear qM120
  refine ⟨hM120.kq (gM120 _ _ k), ?_⟩
  intro M124 eM124
  have hM124 := hM120.ur (gM120 _ _ k) eM124
  have gM124 := hM124.gg (gM120.trans kmn.ur)
  intro M126 eM126
  have hM126 := hM124.new eM126
  have gM126 := hM126.gg (gM124.trans kmn.pu)
  rw [hM124.z]
  refine (ii_MF (d := d + 1) (r := 900) rfl (by decide) ht hM126 (kd.nw hM124.len)).mono (fun M128 qM128 => ⟨qM128.1.1, ?_⟩)
  have hM128 := qM128.1
  have gM128 := gM126.trans qM128.2
  clear qM128
  refine ⟨hM128.kq (gM128 _ _ k), ?_⟩
  intro M132 eM132
  have hM132 := hM128.ur (gM128 _ _ k) eM132
  have gM132 := hM132.gg (gM128.trans kmn.ur)
  intro M134 eM134
  have hM134 := hM132.new eM134
  have gM134 := hM134.gg (gM132.trans kmn.pu)
  rw [hM132.z]
  refine (ii_MF (d := d + 1) (r := 900) rfl (by decide) ht hM134 (kd.nw hM132.len)).mono (fun M136 qM136 => ⟨qM136.1.1, ?_⟩)
  have hM136 := qM136.1
  have gM136 := gM134.trans qM136.2
  clear qM136
  refine ⟨hM136.kq (gM136 _ _ k), ?_⟩
  intro M140 eM140
  have hM140 := hM136.ur (gM136 _ _ k) eM140
  have gM140 := hM140.gg (gM136.trans kmn.ur)
  intro M142 eM142
  have hM142 := hM140.new eM142
  have gM142 := hM142.gg (gM140.trans kmn.pu)
  rw [hM140.z]
  refine (ii_MF (d := d + 1) (r := 900) rfl (by decide) ht hM142 (kd.nw hM140.len)).mono (fun M144 qM144 => ⟨qM144.1.1, ?_⟩)
  have hM144 := qM144.1
  have gM144 := gM142.trans qM144.2
  clear qM144
  refine ⟨hM144.kq (gM144 _ _ k), ?_⟩
  intro M148 eM148
  have hM148 := hM144.ur (gM144 _ _ k) eM148
  have gM148 := hM148.gg (gM144.trans kmn.ur)
  intro M150 eM150
  have hM150 := hM148.new eM150
  have gM150 := hM150.gg (gM148.trans kmn.pu)
  rw [hM148.z]
  refine ⟨hM150.kq (gM150 _ _ k), ?_⟩
  intro M153 eM153
  have hM153 := hM150.ur (gM150 _ _ k) eM153
  have gM153 := hM153.gg (gM150.trans kmn.ur)
  exact H _ (hM153.cv (by omega) (by omega))
def LMS : List PR := [(17, 0, [(31, 67), (30, 62), (29, 57), (28, 52), (27, 47), (26, 42), (25, 41), (23, 40), (22, 39), (21, 38), (20, 37), (19, 36), (18, 35), (16, 34), (15, 33), (14, 32), (13, 31), (12, 30), (11, 29), (10, 28), (9, 27), (8, 26), (7, 25), (6, 24), (5, 23), (4, 22), (0, 1)], .inl []), (18, 0, [(6, 20), (5, 18), (4, 16), (3, 14), (2, 12), (1, 7), (0, 2)], .inl []), (19, 0, [(1, 5), (0, 3)], .inl []), (20, 0, [(0, 4)], .inl []), (30, 900, [], .inl []), (20, 0, [(0, 6)], .inr 901), (30, 900, [], .inr 0), (19, 0, [(1, 10), (0, 8)], .inl []), (20, 0, [(0, 9)], .inl []), (30, 900, [], .inl []), (20, 0, [(0, 11)], .inr 901), (30, 900, [], .inr 0), (20, 0, [(0, 13)], .inl []), (30, 900, [], .inl []), (20, 0, [(0, 15)], .inl []), (30, 900, [], .inl []), (20, 0, [(0, 17)], .inl []), (30, 900, [], .inl []), (20, 0, [(0, 19)], .inl []), (30, 900, [], .inl []), (20, 0, [(0, 21)], .inl []), (30, 900, [], .inl []), (30, 513, [], .inl []), (30, 514, [], .inl []), (30, 4200, [], .inl []), (30, 4201, [], .inl []), (30, 4096, [], .inl []), (30, 4096, [], .inl []), (30, 4096, [], .inl []), (36, 1536, [], .inl []), (31, 3, [], .inl []), (36, 512, [], .inl []), (30, 512, [], .inl []), (30, 512, [], .inl []), (30, 512, [], .inl []), (30, 512, [], .inl []), (31, 512, [], .inl []), (31, 512, [], .inl []), (36, 512, [], .inl []), (30, 40, [], .inl []), (30, 512, [], .inl []), (36, 1640, [], .inl []), (19, 0, [(1, 45), (0, 43)], .inl []), (20, 0, [(0, 44)], .inl []), (30, 8, [], .inl []), (20, 0, [(0, 46)], .inr 9), (30, 8, [], .inr 0), (19, 0, [(1, 50), (0, 48)], .inl []), (20, 0, [(0, 49)], .inl []), (30, 56, [], .inl []), (20, 0, [(0, 51)], .inr 57), (30, 56, [], .inr 0), (19, 0, [(1, 55), (0, 53)], .inl []), (20, 0, [(0, 54)], .inl []), (30, 900, [], .inl []), (20, 0, [(0, 56)], .inr 901), (30, 900, [], .inr 0), (19, 0, [(1, 60), (0, 58)], .inl []), (20, 0, [(0, 59)], .inl []), (30, 900, [], .inl []), (20, 0, [(0, 61)], .inr 901), (30, 900, [], .inr 0), (19, 0, [(1, 65), (0, 63)], .inl []), (20, 0, [(0, 64)], .inl []), (30, 900, [], .inl []), (20, 0, [(0, 66)], .inr 901), (30, 900, [], .inr 0), (30, 400, [], .inl [])]
set_option maxRecDepth 100000 in
theorem lms_eq : ini_MS [(17, 0, [], .inl [])] 0 1 = LMS := bqL_eq (by decide +kernel)
section MSI
variable {G : mG} {d s S0 c i : Nat} {M M' M0 M1 M2 : mM} {Q : mM → Prop}
/-- a new fraction at the end of the heap -/
def frq (M M' : mM) : Prop := mOk M' ∧ mZ M' = mZ M + 5 ∧ mS M' = mS M + 119 ∧ (∀ x, x < mZ M → Eqc M M' x) ∧ Ft M' (mZ M) 56
theorem s_MF_new (hO : mOk M) (hz : 0 < mZ M) (e : M1 = mNew M 19 0 3) : Cv G y_MF_init (d + 3) [vr (mZ M), vi 56] M1 (fun M' => frq M M') := by
  have c0 : Cst [] 0 0 (mZ M) M M := ⟨hO, ⟨rfl, rfl⟩, rfl, fun _ _ => Eqc.rfl', fun o r h => by cases h⟩
  have c1 := c0.new e
  have z := ii_MF (G := G) (d := d) (o := 0) (li := 56) (r := 56) rfl ⟨by decide, by decide⟩ hz c1 (kd.nw rfl)
  refine z.mono (fun M' q => ?_)
  obtain ⟨⟨q1, ⟨-, q2⟩, q3, q4, q5⟩, -⟩ := q
  have e1 : ini_MF (pz ([] : List PR) 19 0) 0 (0 + 1) 56 = [(19, 0, [(1, 3), (0, 1)], .inl []), (20, 0, [(0, 2)], .inl []), (30, 56, [], .inl []), (20, 0, [(0, 4)], .inr 57), (30, 56, [], .inr 0)] := bqL_eq (by decide +kernel)
  rw [e1] at q5
  have R0 := q5 0 _ rfl
  have R1 := q5 1 _ rfl
  have R2 := q5 2 _ rfl
  have R3 := q5 3 _ rfl
  have R4 := q5 4 _ rfl
  refine ⟨q1, by omega, by omega, q4, ⟨R0.1, (R0.2.2.1 0).trans rfl, (R0.2.2.1 1).trans rfl⟩, ⟨R1.1, (R1.2.2.1 0).trans rfl, R2.1, R2.2.1, by decide, ?_, ?_⟩, ⟨R3.1, (R3.2.2.1 0).trans rfl, R4.1, R4.2.1, by decide, R3.2.2.2.2.1, R3.2.2.2.2.2⟩⟩
  · rw [R1.2.2.2.2 1]; decide
  · rw [R1.2.2.2.2 1]; decide
/-- the solver's first rows; of four arrays the references are not told -/
def Pin (M : mM) (s : Nat) : Prop := ∀ (o : Nat) (r : PR), LMS[o]? = some r → (mK M (s + o) = r.1 ∧ mN M (s + o) = r.2.1) ∧ (o ≠ 29 → o ≠ 31 → o ≠ 38 → o ≠ 41 → RowAt r s (s + o) M)
/-- c fractions were made -/
def Jms (M0 : mM) (s S0 c : Nat) (M : mM) : Prop := mOk M ∧ mZ M = s + 68 + 5 * c ∧ mS M = S0 + 119 * c ∧ (∀ x, x < s → Eqc M0 M x) ∧ Pin M s ∧ ∀ m, m < c → Ft M (s + 68 + 5 * m) 56
/-- an array of fractions: its field, its place, its length -/
def tq4 (j q w : Nat) : Prop := (j = 11 ∧ q = 29 ∧ w = 1536) ∨ (j = 13 ∧ q = 31 ∧ w = 512) ∨ (j = 21 ∧ q = 38 ∧ w = 512) ∨ (j = 25 ∧ q = 41 ∧ w = 1640)
theorem Pin.tq {j q w : Nat} (h : Pin M s) (t : tq4 j q w) : mR M s j = s + q ∧ mK M (s + q) = 36 ∧ mN M (s + q) = w := by
  have R0 := (h 0 _ rfl).2 (by decide) (by decide) (by decide) (by decide)
  rcases t with ⟨rfl, rfl, rfl⟩ | ⟨rfl, rfl, rfl⟩ | ⟨rfl, rfl, rfl⟩ | ⟨rfl, rfl, rfl⟩
  · exact ⟨(R0.2.2.1 11).trans rfl, (h 29 _ rfl).1⟩
  · exact ⟨(R0.2.2.1 13).trans rfl, (h 31 _ rfl).1⟩
  · exact ⟨(R0.2.2.1 21).trans rfl, (h 38 _ rfl).1⟩
  · exact ⟨(R0.2.2.1 25).trans rfl, (h 41 _ rfl).1⟩
theorem Pin.k17 (h : Pin M s) : mK M s = 17 := (h 0 _ rfl).1.1
theorem Ft.eqc {f r : Nat} (h : Ft M f r) (e : ∀ x, f ≤ x → x ≤ f + 4 → Eqc M M' x) : Ft M' f r := by
  obtain ⟨⟨a1, a2, a3⟩, ⟨b1, b2, b3, b4, b5, b6, b7⟩, ⟨c1, c2, c3, c4, c5, c6, c7⟩⟩ := h
  have e0 := e f (by omega) (by omega)
  have e1 := e (f + 1) (by omega) (by omega)
  have e2 := e (f + 1 + 1) (by omega) (by omega)
  have e3 := e (f + 3) (by omega) (by omega)
  have e4 := e (f + 3 + 1) (by omega) (by omega)
  exact ⟨⟨by rw [e0.1]; exact a1, by rw [e0.2.2.2.2]; exact a2, by rw [e0.2.2.2.2]; exact a3⟩, ⟨by rw [e1.1]; exact b1, by rw [e1.2.2.2.2]; exact b2, by rw [e2.1]; exact b3, by rw [e2.2.1]; exact b4, b5, by rw [e1.2.2.1]; exact b6, by rw [e1.2.2.1]; exact b7⟩, ⟨by rw [e3.1]; exact c1, by rw [e3.2.2.2.2]; exact c2, by rw [e4.1]; exact c3, by rw [e4.2.1]; exact c4, c5, by rw [e3.2.2.1]; exact c6, by rw [e3.2.2.1]; exact c7⟩⟩
theorem Jms.put {j q w : Nat} {ix : Nat} (h : Jms M0 s S0 c M) (t : tq4 j q w) (f : frq M M1) (e : M2 = mUR M1 (s + q) ix (mZ M)) : Jms M0 s S0 (c + 1) M2 ∧ ∀ x k, x < mZ M → mR M2 x k = if x = s + q ∧ k = ix then s + 68 + 5 * c else mR M x k := by
  obtain ⟨h1, h2, h3, h4, h5, h6⟩ := h
  obtain ⟨f1, f2, f3, f4, f5⟩ := f
  have hq : 29 ≤ q ∧ q ≤ 41 ∧ (q = 29 ∨ q = 31 ∨ q = 38 ∨ q = 41) := by unfold tq4 at t; omega
  have E2 : ∀ x, x ≠ s + q → Eqc M1 M2 x := fun x hx => by rw [e]; exact eqc_ur hx
  have E : ∀ x, x < mZ M → x ≠ s + q → Eqc M M2 x := fun x hx nx => (f4 x hx).trans (E2 x nx)
  have KN : ∀ x, x < mZ M → mK M2 x = mK M x ∧ mN M2 x = mN M x := fun x hx => by
    have u := f4 x hx
    rw [e]
    exact ⟨u.1, u.2.1⟩
  refine ⟨⟨by rw [e]; exact mOk_UR f1, by rw [e]; show mZ M1 = _; omega, by rw [e]; show mS M1 = _; omega, fun x hx => (h4 x hx).trans (E x (by omega) (by omega)), fun o r hr => ?_, fun m hm => ?_⟩, fun x k hx => ?_⟩
  · have lt : o < 68 := (List.getElem?_eq_some_iff.mp hr).1
    have kn := KN (s + o) (by omega)
    refine ⟨by rw [kn.1, kn.2]; exact (h5 o r hr).1, fun a1 a2 a3 a4 => ((h5 o r hr).2 a1 a2 a3 a4).eqc (E _ (by omega) (by omega))⟩
  · by_cases hc : m < c
    · exact (h6 m hc).eqc (fun x a b => E x (by omega) (by omega))
    · have em : s + 68 + 5 * m = mZ M := by omega
      rw [em]
      exact f5.eqc (fun x a b => E2 x (by omega))
  · rw [e, mR_UR]
    by_cases cc : x = s + q ∧ k = ix
    · rw [if_pos cc, if_pos cc, h2]
    · rw [if_neg cc, if_neg cc, (f4 x hx).2.2.2.2]
/-- one fraction more, as the constructor's rows ask it -/
theorem fr_put {j q w : Nat} {ix : Int} {R : mM → Prop} (h : Jms M0 s S0 c M) (t : tq4 j q w) (hi : 0 ≤ ix ∧ ix < (w : Int)) (H : ∀ M2, Jms M0 s S0 (c + 1) M2 → (∀ x k, x < mZ M → mR M2 x k = if x = s + q ∧ k = ix.toNat then s + 68 + 5 * c else mR M x k) → R M2) : ∀ M1, M1 = mNew M 19 0 3 → Cv G y_MF_init (d + 3) [vr (mZ M), vi 56] M1 (fun M' => mOk M' ∧ (mK M' (mR M s j) = 36 ∧ ((0 : Int) ≤ ix ∧ ix < (mN M' (mR M s j) : Int)) ∧ mK M' (mZ M) = 19 ∧ ∀ M2, M2 = mUR M' (mR M s j) (Int.toNat ix) (mZ M) → R M2)) := by
  intro M1 e1
  obtain ⟨t1, t2, t3⟩ := h.2.2.2.2.1.tq t
  have hq : q ≤ 41 := by unfold tq4 at t; omega
  have hz := h.2.1
  refine (s_MF_new h.1 (by omega) e1).mono (fun M' f => ⟨f.1, ?_⟩)
  have u := f.2.2.2.1 (s + q) (by omega)
  rw [t1, u.1, u.2.1, t3]
  refine ⟨t2, hi, f.2.2.2.2.1.1, fun M2 e2 => ?_⟩
  obtain ⟨a, b⟩ := h.put t f e2
  exact H M2 a b
/-- what the first loops have put -/
def Vms (s i : Nat) (M : mM) : Prop := (∀ a b, a < i → b < 3 → mR M (s + 29) (3 * a + b) = s + 68 + 25 * a + 5 * b) ∧ (∀ k, k < i → mR M (s + 31) k = s + 83 + 25 * k) ∧ (∀ k, k < i → mR M (s + 38) k = s + 88 + 25 * k)
theorem lp_ms5 (h : Jms M0 s S0 (5 * i) M) (v : Vms s i M) (hi : i < 512) (H : ∀ M', Jms M0 s S0 (5 * (i + 1)) M' → Vms s (i + 1) M' → h_MS_init_275 G (d + 3) s ((i : Int) + 1) M' Q) : h_MS_init_284 G (d + 3) s (i : Int) 0 M Q := by
  refine k_MS_init_284 h.1 ⟨by omega, by omega⟩ ⟨by decide, by decide⟩ ⟨fun c => absurd c (by decide), fun _ => ⟨h.2.2.2.2.1.k17, fr_put h (q := 29) (w := 1536) (Or.inl ⟨rfl, rfl, rfl⟩) ⟨by omega, by omega⟩ (fun Ma ha pa => ?_)⟩⟩
  refine k_MS_init_284 ha.1 ⟨by omega, by omega⟩ ⟨by decide, by decide⟩ ⟨fun c => absurd c (by decide), fun _ => ⟨ha.2.2.2.2.1.k17, fr_put ha (q := 29) (w := 1536) (Or.inl ⟨rfl, rfl, rfl⟩) ⟨by omega, by omega⟩ (fun Mb hb pb => ?_)⟩⟩
  refine k_MS_init_284 hb.1 ⟨by omega, by omega⟩ ⟨by decide, by decide⟩ ⟨fun c => absurd c (by decide), fun _ => ⟨hb.2.2.2.2.1.k17, fr_put hb (q := 29) (w := 1536) (Or.inl ⟨rfl, rfl, rfl⟩) ⟨by omega, by omega⟩ (fun Mc hc pc => ?_)⟩⟩
  refine k_MS_init_284 hc.1 ⟨by omega, by omega⟩ ⟨by decide, by decide⟩ ⟨fun _ => ⟨hc.2.2.2.2.1.k17, fr_put hc (q := 31) (w := 512) (Or.inr (Or.inl ⟨rfl, rfl, rfl⟩)) ⟨by omega, by omega⟩ (fun Md hd pd => ⟨hd.2.2.2.2.1.k17, fr_put hd (q := 38) (w := 512) (Or.inr (Or.inr (Or.inl ⟨rfl, rfl, rfl⟩))) ⟨by omega, by omega⟩ (fun Me he pe => ?_)⟩)⟩, fun c => absurd (by decide) c⟩
  have z0 := h.2.1
  have z1 := ha.2.1
  have z2 := hb.2.1
  have z3 := hc.2.1
  have z4 := hd.2.1
  refine H Me (by rw [show 5 * (i + 1) = 5 * i + 1 + 1 + 1 + 1 + 1 by first | rfl | omega]; exact he) ⟨fun a b ha' hb' => ?_, fun k hk => ?_, fun k hk => ?_⟩
  · rw [pe _ _ (by omega), if_neg (by omega), pd _ _ (by omega), if_neg (by omega), pc _ _ (by omega)]
    split
    · omega
    · rw [pb _ _ (by omega)]
      split
      · omega
      · rw [pa _ _ (by omega)]
        split
        · omega
        · exact v.1 a b (by omega) hb'
  · rw [pe _ _ (by omega), if_neg (by omega), pd _ _ (by omega)]
    split
    · omega
    · rw [pc _ _ (by omega), if_neg (by omega), pb _ _ (by omega), if_neg (by omega), pa _ _ (by omega), if_neg (by omega)]
      exact v.2.1 k (by omega)
  · rw [pe _ _ (by omega)]
    split
    · omega
    · rw [pd _ _ (by omega), if_neg (by omega), pc _ _ (by omega), if_neg (by omega), pb _ _ (by omega), if_neg (by omega), pa _ _ (by omega), if_neg (by omega)]
      exact v.2.2 k (by omega)
theorem lp_ms352 (H : ∀ M', Jms M0 s S0 4200 M' → Vms s 512 M' → (∀ k, k < 1640 → mR M' (s + 41) k = s + 12868 + 5 * k) → Q M') : ∀ (c i : Nat) (M : mM), i + c = 1640 → Jms M0 s S0 (2560 + i) M → Vms s 512 M → (∀ k, k < i → mR M (s + 41) k = s + 12868 + 5 * k) → h_MS_init_352 G (d + 3) s (i : Int) M Q := by
  intro c
  induction c with
  | zero =>
    intro i M hi h v w
    have ei : i = 1640 := by omega
    subst ei
    exact k_MS_init_352 h.1 ⟨by decide, by decide⟩ ⟨fun _ => H M h v w, fun c => absurd (by decide) c⟩
  | succ c ih =>
    intro i M hi h v w
    refine k_MS_init_352 h.1 ⟨by omega, by omega⟩ ⟨fun c' => absurd c' (by omega), fun _ => ⟨h.2.2.2.2.1.k17, fr_put h (q := 41) (w := 1640) (Or.inr (Or.inr (Or.inr ⟨rfl, rfl, rfl⟩))) ⟨by omega, by omega⟩ (fun Ma ha pa => ?_)⟩⟩
    have z0 := h.2.1
    have e1 : ((i : Int) + 1) = ((i + 1 : Nat) : Int) := by omega
    rw [e1]
    refine ih (i + 1) Ma (by omega) ha ⟨fun a b x y => ?_, fun k x => ?_, fun k x => ?_⟩ (fun k x => ?_)
    · rw [pa _ _ (by omega), if_neg (by omega)]; exact v.1 a b x y
    · rw [pa _ _ (by omega), if_neg (by omega)]; exact v.2.1 k x
    · rw [pa _ _ (by omega), if_neg (by omega)]; exact v.2.2 k x
    · rw [pa _ _ (by omega)]
      split
      · omega
      · exact w k (by omega)
theorem lp_ms275 (H : ∀ M', Jms M0 s S0 4200 M' → Vms s 512 M' → (∀ k, k < 1640 → mR M' (s + 41) k = s + 12868 + 5 * k) → Q M') : ∀ (c i : Nat) (M : mM), i + c = 512 → Jms M0 s S0 (5 * i) M → Vms s i M → h_MS_init_275 G (d + 3) s (i : Int) M Q := by
  intro c
  induction c with
  | zero =>
    intro i M hi h v
    have ei : i = 512 := by omega
    subst ei
    exact k_MS_init_275 h.1 ⟨by decide, by decide⟩ ⟨fun _ => lp_ms352 H 1640 0 M rfl h v (fun k hk => absurd hk (by omega)), fun c => absurd (by decide) c⟩
  | succ c ih =>
    intro i M hi h v
    refine k_MS_init_275 h.1 ⟨by omega, by omega⟩ ⟨fun c' => absurd c' (by omega), fun _ => ?_⟩
    refine lp_ms5 h v (by omega) (fun M' h' v' => ?_)
    have e1 : ((i : Int) + 1) = ((i + 1 : Nat) : Int) := by omega
    rw [e1]
    exact ih (i + 1) M' (by omega) h' v'
end MSI
/-- the reference's solver, as its constructor leaves it -/
theorem ms_sv {s S0 : Nat} {M0 M : mM} (h : Jms M0 s S0 4200 M) (v : Vms s 512 M) (w : ∀ k, k < 1640 → mR M (s + 41) k = s + 12868 + 5 * k) : Sv M s 0 := by
  obtain ⟨h1, h2, h3, h4, h5, h6⟩ := h
  have R0 := (h5 0 _ rfl).2 (by decide) (by decide) (by decide) (by decide)
  have R1 := (h5 1 _ rfl).2 (by decide) (by decide) (by decide) (by decide)
  have R2 := (h5 2 _ rfl).2 (by decide) (by decide) (by decide) (by decide)
  have R3 := (h5 3 _ rfl).2 (by decide) (by decide) (by decide) (by decide)
  have R4 := (h5 4 _ rfl).2 (by decide) (by decide) (by decide) (by decide)
  have R5 := (h5 5 _ rfl).2 (by decide) (by decide) (by decide) (by decide)
  have R6 := (h5 6 _ rfl).2 (by decide) (by decide) (by decide) (by decide)
  have R7 := (h5 7 _ rfl).2 (by decide) (by decide) (by decide) (by decide)
  have R8 := (h5 8 _ rfl).2 (by decide) (by decide) (by decide) (by decide)
  have R9 := (h5 9 _ rfl).2 (by decide) (by decide) (by decide) (by decide)
  have R10 := (h5 10 _ rfl).2 (by decide) (by decide) (by decide) (by decide)
  have R11 := (h5 11 _ rfl).2 (by decide) (by decide) (by decide) (by decide)
  have R12 := (h5 12 _ rfl).2 (by decide) (by decide) (by decide) (by decide)
  have R13 := (h5 13 _ rfl).2 (by decide) (by decide) (by decide) (by decide)
  have R14 := (h5 14 _ rfl).2 (by decide) (by decide) (by decide) (by decide)
  have R15 := (h5 15 _ rfl).2 (by decide) (by decide) (by decide) (by decide)
  have R16 := (h5 16 _ rfl).2 (by decide) (by decide) (by decide) (by decide)
  have R17 := (h5 17 _ rfl).2 (by decide) (by decide) (by decide) (by decide)
  have R18 := (h5 18 _ rfl).2 (by decide) (by decide) (by decide) (by decide)
  have R19 := (h5 19 _ rfl).2 (by decide) (by decide) (by decide) (by decide)
  have R20 := (h5 20 _ rfl).2 (by decide) (by decide) (by decide) (by decide)
  have R21 := (h5 21 _ rfl).2 (by decide) (by decide) (by decide) (by decide)
  have R22 := (h5 22 _ rfl).2 (by decide) (by decide) (by decide) (by decide)
  have R23 := (h5 23 _ rfl).2 (by decide) (by decide) (by decide) (by decide)
  have R24 := (h5 24 _ rfl).2 (by decide) (by decide) (by decide) (by decide)
  have R25 := (h5 25 _ rfl).2 (by decide) (by decide) (by decide) (by decide)
  have R26 := (h5 26 _ rfl).2 (by decide) (by decide) (by decide) (by decide)
  have R27 := (h5 27 _ rfl).2 (by decide) (by decide) (by decide) (by decide)
  have R28 := (h5 28 _ rfl).2 (by decide) (by decide) (by decide) (by decide)
  have R30 := (h5 30 _ rfl).2 (by decide) (by decide) (by decide) (by decide)
  have R32 := (h5 32 _ rfl).2 (by decide) (by decide) (by decide) (by decide)
  have R33 := (h5 33 _ rfl).2 (by decide) (by decide) (by decide) (by decide)
  have R34 := (h5 34 _ rfl).2 (by decide) (by decide) (by decide) (by decide)
  have R35 := (h5 35 _ rfl).2 (by decide) (by decide) (by decide) (by decide)
  have R36 := (h5 36 _ rfl).2 (by decide) (by decide) (by decide) (by decide)
  have R37 := (h5 37 _ rfl).2 (by decide) (by decide) (by decide) (by decide)
  have R39 := (h5 39 _ rfl).2 (by decide) (by decide) (by decide) (by decide)
  have R40 := (h5 40 _ rfl).2 (by decide) (by decide) (by decide) (by decide)
  have R42 := (h5 42 _ rfl).2 (by decide) (by decide) (by decide) (by decide)
  have R43 := (h5 43 _ rfl).2 (by decide) (by decide) (by decide) (by decide)
  have R44 := (h5 44 _ rfl).2 (by decide) (by decide) (by decide) (by decide)
  have R45 := (h5 45 _ rfl).2 (by decide) (by decide) (by decide) (by decide)
  have R46 := (h5 46 _ rfl).2 (by decide) (by decide) (by decide) (by decide)
  have R47 := (h5 47 _ rfl).2 (by decide) (by decide) (by decide) (by decide)
  have R48 := (h5 48 _ rfl).2 (by decide) (by decide) (by decide) (by decide)
  have R49 := (h5 49 _ rfl).2 (by decide) (by decide) (by decide) (by decide)
  have R50 := (h5 50 _ rfl).2 (by decide) (by decide) (by decide) (by decide)
  have R51 := (h5 51 _ rfl).2 (by decide) (by decide) (by decide) (by decide)
  have R52 := (h5 52 _ rfl).2 (by decide) (by decide) (by decide) (by decide)
  have R53 := (h5 53 _ rfl).2 (by decide) (by decide) (by decide) (by decide)
  have R54 := (h5 54 _ rfl).2 (by decide) (by decide) (by decide) (by decide)
  have R55 := (h5 55 _ rfl).2 (by decide) (by decide) (by decide) (by decide)
  have R56 := (h5 56 _ rfl).2 (by decide) (by decide) (by decide) (by decide)
  have R57 := (h5 57 _ rfl).2 (by decide) (by decide) (by decide) (by decide)
  have R58 := (h5 58 _ rfl).2 (by decide) (by decide) (by decide) (by decide)
  have R59 := (h5 59 _ rfl).2 (by decide) (by decide) (by decide) (by decide)
  have R60 := (h5 60 _ rfl).2 (by decide) (by decide) (by decide) (by decide)
  have R61 := (h5 61 _ rfl).2 (by decide) (by decide) (by decide) (by decide)
  have R62 := (h5 62 _ rfl).2 (by decide) (by decide) (by decide) (by decide)
  have R63 := (h5 63 _ rfl).2 (by decide) (by decide) (by decide) (by decide)
  have R64 := (h5 64 _ rfl).2 (by decide) (by decide) (by decide) (by decide)
  have R65 := (h5 65 _ rfl).2 (by decide) (by decide) (by decide) (by decide)
  have R66 := (h5 66 _ rfl).2 (by decide) (by decide) (by decide) (by decide)
  have R67 := (h5 67 _ rfl).2 (by decide) (by decide) (by decide) (by decide)
  have R29 := (h5 29 _ rfl).1
  have R31 := (h5 31 _ rfl).1
  have R38 := (h5 38 _ rfl).1
  have R41 := (h5 41 _ rfl).1
  have i1 : mI M s 1 = 0 := R0.2.2.2.2 1
  have i2 : mI M s 2 = 0 := R0.2.2.2.2 2
  have i3 : mI M s 3 = 0 := R0.2.2.2.2 3
  refine ⟨⟨R0.1, ⟨(R0.2.2.1 0).trans rfl, (R0.2.2.1 4).trans rfl, (R0.2.2.1 5).trans rfl, (R0.2.2.1 6).trans rfl, (R0.2.2.1 7).trans rfl, (R0.2.2.1 8).trans rfl, (R0.2.2.1 9).trans rfl, (R0.2.2.1 10).trans rfl⟩, ⟨(R0.2.2.1 11).trans rfl, (R0.2.2.1 12).trans rfl, (R0.2.2.1 13).trans rfl, (R0.2.2.1 14).trans rfl, (R0.2.2.1 15).trans rfl, (R0.2.2.1 16).trans rfl, (R0.2.2.1 18).trans rfl, (R0.2.2.1 19).trans rfl, (R0.2.2.1 20).trans rfl⟩, ⟨(R0.2.2.1 21).trans rfl, (R0.2.2.1 22).trans rfl, (R0.2.2.1 23).trans rfl, (R0.2.2.1 25).trans rfl, (R0.2.2.1 26).trans rfl, (R0.2.2.1 27).trans rfl, (R0.2.2.1 28).trans rfl, (R0.2.2.1 29).trans rfl, (R0.2.2.1 30).trans rfl, (R0.2.2.1 31).trans rfl⟩, ⟨R22.1, R23.1, R24.1, R25.1, R26.1, R27.1, R28.1⟩, ⟨R29.1, R30.1, R31.1, R32.1, R33.1, R34.1, R35.1, R36.1, R37.1, R38.1, R39.1, R40.1, R41.1, R67.1⟩, ⟨R22.2.1, R23.2.1, R24.2.1, R25.2.1, R26.2.1, R27.2.1, R28.2.1⟩, ⟨R29.2, R30.2.1, R31.2, R32.2.1, R33.2.1, R34.2.1, R35.2.1, R36.2.1, R37.2.1, R38.2, R39.2.1, R40.2.1, R41.2, R67.2.1⟩, v.1, v.2.1, v.2.2, w⟩, ⟨by rw [i1]; decide, by rw [i1]; decide, by rw [i2]; decide, by rw [i3]; decide, R23.2.2.2.2 0, R25.2.2.2.2 0, fun i j _ _ => Int.le_trans (Int.le_of_eq (R23.2.2.2.2 i)) (Int.le_of_eq (R23.2.2.2.2 j).symm), (R23.2.2.2.2 _).trans i2.symm, fun i j _ _ => Int.le_trans (Int.le_of_eq (R25.2.2.2.2 i)) (Int.le_of_eq (R25.2.2.2.2 j).symm), (R25.2.2.2.2 _).trans i3.symm, fun b hb => absurd hb (by rw [i3]; omega)⟩, fun c hc => absurd hc (by rw [i2]; omega), i1, fun k hk => absurd hk (by rw [i1]; omega), ⟨⟨⟨R1.1, (R1.2.2.1 0).trans rfl, (R1.2.2.1 1).trans rfl, (R1.2.2.1 2).trans rfl, (R1.2.2.1 3).trans rfl, (R1.2.2.1 4).trans rfl, (R1.2.2.1 5).trans rfl, (R1.2.2.1 6).trans rfl⟩, ⟨R2.1, (R2.2.2.1 0).trans rfl, (R2.2.2.1 1).trans rfl⟩, ⟨R7.1, (R7.2.2.1 0).trans rfl, (R7.2.2.1 1).trans rfl⟩, fun c hc => ?_⟩, ⟨⟨R42.1, (R42.2.2.1 0).trans rfl, (R42.2.2.1 1).trans rfl⟩, ⟨R43.1, (R43.2.2.1 0).trans rfl, R44.1, R44.2.1, by decide, Int.le_of_eq (R43.2.2.2.2 1).symm, Int.le_trans (Int.le_of_eq (R43.2.2.2.2 1)) (show (0 : Int) ≤ ((8 : Nat) : Int) by decide)⟩, ⟨R45.1, (R45.2.2.1 0).trans rfl, R46.1, R46.2.1, by decide, R45.2.2.2.2.1, Int.le_trans R45.2.2.2.2.2 (by decide)⟩⟩, ⟨⟨R47.1, (R47.2.2.1 0).trans rfl, (R47.2.2.1 1).trans rfl⟩, ⟨R48.1, (R48.2.2.1 0).trans rfl, R49.1, R49.2.1, by decide, Int.le_of_eq (R48.2.2.2.2 1).symm, Int.le_trans (Int.le_of_eq (R48.2.2.2.2 1)) (show (0 : Int) ≤ ((56 : Nat) : Int) by decide)⟩, ⟨R50.1, (R50.2.2.1 0).trans rfl, R51.1, R51.2.1, by decide, R50.2.2.2.2.1, Int.le_trans R50.2.2.2.2.2 (by decide)⟩⟩, ⟨⟨R52.1, (R52.2.2.1 0).trans rfl, (R52.2.2.1 1).trans rfl⟩, ⟨R53.1, (R53.2.2.1 0).trans rfl, R54.1, R54.2.1, by decide, Int.le_of_eq (R53.2.2.2.2 1).symm, Int.le_trans (Int.le_of_eq (R53.2.2.2.2 1)) (show (0 : Int) ≤ ((900 : Nat) : Int) by decide)⟩, ⟨R55.1, (R55.2.2.1 0).trans rfl, R56.1, R56.2.1, by decide, R55.2.2.2.2.1, Int.le_trans R55.2.2.2.2.2 (by decide)⟩⟩, ⟨⟨R57.1, (R57.2.2.1 0).trans rfl, (R57.2.2.1 1).trans rfl⟩, ⟨R58.1, (R58.2.2.1 0).trans rfl, R59.1, R59.2.1, by decide, Int.le_of_eq (R58.2.2.2.2 1).symm, Int.le_trans (Int.le_of_eq (R58.2.2.2.2 1)) (show (0 : Int) ≤ ((900 : Nat) : Int) by decide)⟩, ⟨R60.1, (R60.2.2.1 0).trans rfl, R61.1, R61.2.1, by decide, R60.2.2.2.2.1, Int.le_trans R60.2.2.2.2.2 (by decide)⟩⟩, ⟨⟨R62.1, (R62.2.2.1 0).trans rfl, (R62.2.2.1 1).trans rfl⟩, ⟨R63.1, (R63.2.2.1 0).trans rfl, R64.1, R64.2.1, by decide, Int.le_of_eq (R63.2.2.2.2 1).symm, Int.le_trans (Int.le_of_eq (R63.2.2.2.2 1)) (show (0 : Int) ≤ ((900 : Nat) : Int) by decide)⟩, ⟨R65.1, (R65.2.2.1 0).trans rfl, R66.1, R66.2.1, by decide, R65.2.2.2.2.1, Int.le_trans R65.2.2.2.2.2 (by decide)⟩⟩⟩, fun i j hi hj => ?_, fun e he i hi => ?_, fun k hk => ⟨Or.inl (R30.2.2.2.2 k), fun u => ?_⟩, fun u => ?_⟩
  · have hc' : c = 2 ∨ c = 4 ∨ c = 7 ∨ c = 9 ∨ c = 11 ∨ c = 13 ∨ c = 15 ∨ c = 17 ∨ c = 19 := by simpa [szL] using hc
    rcases hc' with e | e | e | e | e | e | e | e | e <;> subst e
    · exact ⟨R3.1, (R3.2.2.1 0).trans rfl, R4.1, R4.2.1, by decide, Int.le_of_eq (R3.2.2.2.2 1).symm, Int.le_trans (Int.le_of_eq (R3.2.2.2.2 1)) (show (0 : Int) ≤ ((900 : Nat) : Int) by decide)⟩
    · exact ⟨R5.1, (R5.2.2.1 0).trans rfl, R6.1, R6.2.1, by decide, R5.2.2.2.2.1, Int.le_trans R5.2.2.2.2.2 (by decide)⟩
    · exact ⟨R8.1, (R8.2.2.1 0).trans rfl, R9.1, R9.2.1, by decide, Int.le_of_eq (R8.2.2.2.2 1).symm, Int.le_trans (Int.le_of_eq (R8.2.2.2.2 1)) (show (0 : Int) ≤ ((900 : Nat) : Int) by decide)⟩
    · exact ⟨R10.1, (R10.2.2.1 0).trans rfl, R11.1, R11.2.1, by decide, R10.2.2.2.2.1, Int.le_trans R10.2.2.2.2.2 (by decide)⟩
    · exact ⟨R12.1, (R12.2.2.1 0).trans rfl, R13.1, R13.2.1, by decide, Int.le_of_eq (R12.2.2.2.2 1).symm, Int.le_trans (Int.le_of_eq (R12.2.2.2.2 1)) (show (0 : Int) ≤ ((900 : Nat) : Int) by decide)⟩
    · exact ⟨R14.1, (R14.2.2.1 0).trans rfl, R15.1, R15.2.1, by decide, Int.le_of_eq (R14.2.2.2.2 1).symm, Int.le_trans (Int.le_of_eq (R14.2.2.2.2 1)) (show (0 : Int) ≤ ((900 : Nat) : Int) by decide)⟩
    · exact ⟨R16.1, (R16.2.2.1 0).trans rfl, R17.1, R17.2.1, by decide, Int.le_of_eq (R16.2.2.2.2 1).symm, Int.le_trans (Int.le_of_eq (R16.2.2.2.2 1)) (show (0 : Int) ≤ ((900 : Nat) : Int) by decide)⟩
    · exact ⟨R18.1, (R18.2.2.1 0).trans rfl, R19.1, R19.2.1, by decide, Int.le_of_eq (R18.2.2.2.2 1).symm, Int.le_trans (Int.le_of_eq (R18.2.2.2.2 1)) (show (0 : Int) ≤ ((900 : Nat) : Int) by decide)⟩
    · exact ⟨R20.1, (R20.2.2.1 0).trans rfl, R21.1, R21.2.1, by decide, Int.le_of_eq (R20.2.2.2.2 1).symm, Int.le_trans (Int.le_of_eq (R20.2.2.2.2 1)) (show (0 : Int) ≤ ((900 : Nat) : Int) by decide)⟩
  · have q := h6 (2560 + 41 * i + j) (by omega)
    rw [show s + 68 + 5 * (2560 + 41 * i + j) = s + 12868 + 5 * (41 * i + j) by first | rfl | omega] at q
    exact q
  · obtain ⟨m, e1, e2⟩ : ∃ m, e = 68 + 5 * m ∧ m < 5 := by rcases he with e | e | e | e | e <;> subst e; exact ⟨0, rfl, by decide⟩; exact ⟨1, rfl, by decide⟩; exact ⟨2, rfl, by decide⟩; exact ⟨3, rfl, by decide⟩; exact ⟨4, rfl, by decide⟩
    have q := h6 (5 * i + m) (by omega)
    rw [show s + 68 + 5 * (5 * i + m) = s + e + 25 * i by first | rfl | omega] at q
    exact q
  · exact absurd ((R30.2.2.2.2 k).symm.trans u) (show ¬ ((0 : Int) = 1) by decide)
  · exact absurd ((R30.2.2.2.2 0).symm.trans u) (show ¬ ((0 : Int) = 1) by decide)
theorem ms_h0 {s S0 : Nat} {M0 M : mM} (h : Jms M0 s S0 4200 M) : mI M (s + 30) 0 = 0 := by
  have R30 := (h.2.2.2.2.1 30 _ rfl).2 (by decide) (by decide) (by decide) (by decide)
  exact R30.2.2.2.2 0
set_option maxRecDepth 100000 in
theorem s_MS_init {s d : Nat} {G : mG} {M0 M : mM} (hs : 0 < s) (hO : mOk M0) (hz : mZ M0 = s) (e : M = mNew M0 17 0 32) : Cv G y_MS_init (d + 5) [vr s] M (fun M' => mOk M' ∧ mZ M' = s + 21068 ∧ mS M' = mS M0 + 543469 ∧ (∀ x, x < s → Eqc M0 M' x) ∧ Sv M' s 0 ∧ mI M' (s + 30) 0 = 0) := by
  have c0 : Cst [] 0 0 s M0 M0 := ⟨hO, ⟨rfl, hz⟩, rfl, fun _ _ => Eqc.rfl', fun o r h => by cases h⟩
  have c1 := c0.new e
  refine ii_MS0 (t := s) (o := 0) hs c1 (kd.nw rfl) (fun M' h => ?_)
  have e1 : pz ([] : List PR) 17 0 = [(17, 0, [], .inl [])] := rfl
  rw [e1] at h
  obtain ⟨q1, ⟨-, q2⟩, q3, q4, q5⟩ := h
  have q5' : Pic LMS s M' := by rw [← lms_eq]; exact q5
  have J : Jms M0 s (mS M0 + 43669) (5 * 0) M' := ⟨q1, by omega, by omega, q4, fun o r hr => ⟨⟨(q5' o r hr).1, (q5' o r hr).2.1⟩, fun _ _ _ _ => q5' o r hr⟩, fun m hm => absurd hm (by omega)⟩
  exact lp_ms275 (d := d + 1) (fun M9 j v w => ⟨j.1, by have := j.2.1; omega, by have := j.2.2.1; omega, j.2.2.2.1, ms_sv j v w, ms_h0 j⟩) 512 0 M' rfl J ⟨fun a b u => absurd u (by omega), fun k u => absurd u (by omega), fun k u => absurd u (by omega)⟩
