/-! The solver: writeRows. -/
theorem alg3 {a b c : Rat} : a - (b + c * 1) = a - b + -c := by grind
theorem alg4 {a b c : Rat} : a - (b + c * 0) = a - b := by grind
section VS
variable {G : mG} {d s m : Nat} {M : mM}
/-- what is known while row i is written -/
def wrI (M : mM) (s : Nat) (P : Nat → Nat → Prop) (A : Nat → Nat → Rat) (M2 : mM) : Prop := mOk M2 ∧ FI (rS s) M M2 ∧ Wk M2 s ∧ Ct M2 s ∧ Tp M2 s P A
theorem s_wr77 {i : Nat} {Q : mM → Prop} (hm : m ≤ 40) (hi : i < m) (hV : Vk M s) (hG : GW M s) (hC : GB M s) (h24 : mI M s 24 = m) (hE : Enu M s m)
    (hQ : ∀ M', wrI M s (fun a j => a < i + 1 ∧ j ≤ m) (tA (rowp M s m) m 0) M' → h_MS_writeRows_2 G (d + 4) s ((i : Int) + 1) M' Q) :
    ∀ (r b : Nat) (M2 : mM), b + r = nb M s (rwc M s i) → wrI M s (fun a j => a < i + 1 ∧ j ≤ m) (wrA M s m i b) M2 → h_MS_writeRows_77 G (d + 4) s i (rwc M s i) (mI M (s + 25) (rwc M s i) + b) M2 Q := by
  obtain ⟨u1, u2, u3, u4⟩ := hE.1 i hi
  have u5 := hE.2.2.1 i hi
  have huu : (uu M s i : Int) = mI M (s + 39) i := by unfold uu; omega
  have hc := hG.cmd (i := uu M s i) (by omega)
  have hi' := u5.2
  unfold mny at hi'
  have hcx : (rwc M s i : Int) = mI M (s + 23) (uu M s i) + mI M (s + 35) (uu M s i) := by unfold rwc cx pl; omega
  have hc2 : (rwc M s i : Int) < mI M s 2 := by omega
  have hb := hG.brn hc2
  have h2 := hG.2.1
  have h3 := hG.2.2.1
  have h4 := hG.2.2.2.1
  have ht := hG.2.2.2.2.2.2.2.2.2.2
  have ebg : (bg M s (rwc M s i) : Int) = mI M (s + 25) (rwc M s i) := by unfold bg; omega
  have enb : (nb M s (rwc M s i) : Int) = mI M (s + 25) (rwc M s i + 1) - mI M (s + 25) (rwc M s i) := by unfold nb; omega
  have hm1 := (hC _ hc2).1
  have hbr := (hC _ hc2).2.1
  have hsml : ∀ b j, b ≤ nb M s (rwc M s i) → Sml (wrA M s m i b i j) := fun b j hb => wrA_sml hC hc2 hb
  have hend : ∀ a j, wrA M s m i (nb M s (rwc M s i)) a j = tA (rowp M s m) m 0 a j := fun a j => wrA_end hm
  have hwr : ∀ b a j, wrA M s m i b a j = if a = i then (if j = m then cwp M s (rwc M s i) b (isT M s) else (if i = j then 1 else 0) - cwp M s (rwc M s i) b (isU M s j)) else tA (rowp M s m) m 0 a j := fun b a j => rfl
  clear hi' u1 u2 u3 u4 u5 huu hc hcx
  generalize hcc : rwc M s i = c at *
  have htg : ∀ b, b < nb M s c → (tg M s (bg M s c + b) : Int) < mI M s 1 ∧ (tg M s (bg M s c + b) : Int) = mI M (s + 26) (bg M s c + b) := fun b hb => by
    have := ht (bg M s c + b) (by omega)
    unfold tg
    omega
  intro r
  induction r with
  | zero =>
    intro b M2 hr hw
    have f2 := hw.2.1
    have o2 := hw.1
    have V2 := hV.fi f2
    have G2 : sameG M M2 s := sameG.of f2 (by omega) (fun y _ _ => by omega)
    have eb : b = nb M s c := by omega
    subst eb
    refine k_MS_writeRows_77 o2 ⟨by omega, by omega⟩ ⟨by omega, by omega⟩ ⟨by omega, by omega⟩ ?_
    rw [V2.r7, V2.n25, G2.2.2.2 (s + 25) (by omega) (by omega), show ((c : Int) + 1).toNat = c + 1 by omega]
    exact ⟨V2.k0, V2.k25, by omega, fun _ => hQ M2 ⟨hw.1, hw.2.1, hw.2.2.1, hw.2.2.2.1, hw.2.2.2.2.congr (fun a j _ _ q => ⟨q, (hend a j).symm⟩)⟩, fun q => by omega⟩
  | succ r ih =>
    intro b M2 hr hw
    have hbn : b < nb M s c := by omega
    have hlast : ∀ M7, wrI M s (fun a j => a < i + 1 ∧ j ≤ m) (wrA M s m i (b + 1)) M7 → h_MS_writeRows_207 G (d + 4) s i c (mI M (s + 25) c + b) M7 Q := fun M7 w7 => by
      have a := ih (b + 1) M7 (by omega) w7
      rw [show mI M (s + 25) c + ((b + 1 : Nat) : Int) = mI M (s + 25) c + (b : Int) + 1 by omega] at a
      exact k_MS_writeRows_207 w7.1 ⟨by omega, by omega⟩ ⟨by omega, by omega⟩ ⟨by omega, by omega⟩ a
    obtain ⟨o2, f2, W2, T2, P2⟩ := hw
    have V2 := hV.fi f2
    have G2 : sameG M M2 s := sameG.of f2 (by omega) (fun y _ _ => by omega)
    have fe := f2.2.2.2.2.2.2
    obtain ⟨v0, v1, v2⟩ := hbr b hbn
    have v3 : mI M (s + 28) (bg M s c + b) ≤ mI M (s + 24) c := Int.le_of_dvd (by omega) v2
    have v4 : mI M (s + 27) (bg M s c + b) < 9000000000000 := by
      have q := (hsml 0 0 (by omega))
      have := (o2 (s + 27) (bg M s c + b)).1.2
      rw [fe (s + 27) (by omega)] at this
      omega
    have ebb : (mI M (s + 25) c + (b : Int)).toNat = bg M s c + b := by omega
    obtain ⟨t1, t2⟩ := htg b hbn
    have ett : (mI M (s + 26) (bg M s c + b)).toNat = tg M s (bg M s c + b) := rfl
    generalize htt : tg M s (bg M s c + b) = t at *
    have hch : (mI M (s + 27) (bg M s c + b) : Rat) * (mI M (s + 28) (bg M s c + b) : Rat)⁻¹ = chq M s (bg M s c + b) := rfl
    have hstep : ∀ f : Nat → Int, cwp M s c (b + 1) f = cwp M s c b f + chq M s (bg M s c + b) * (f t : Rat) := fun f => by rw [cwp_succ, htt]
    refine k_MS_writeRows_77 o2 ⟨by omega, by omega⟩ ⟨by omega, by omega⟩ ⟨by omega, by omega⟩ ?_
    rw [V2.r7, V2.r8, V2.r19, V2.r4, V2.r23, V2.n22, V2.n25, V2.n26, V2.n36, V2.n40, fe (s + 25) (by omega), fe (s + 26) (by omega), fe (s + 36) (by omega), fe (s + 22) (by omega), fe (s + 40) (by omega), fe s (by omega), h24, show ((c : Int) + 1).toNat = c + 1 by omega, ebb, ← t2, Int.toNat_natCast]
    refine ⟨V2.k0, V2.k25, by omega, fun q => by omega, fun _ => ⟨V2.k26, by omega, V2.k36, by omega, fun hin => ?_, fun hin => ⟨V2.k22, by omega, fun v hv => ⟨fun _ => ⟨V2.k40, by omega⟩, fun w hw => ?_⟩⟩⟩⟩
    · refine hlast M2 ⟨o2, f2, W2, T2, P2.congr (fun a j ha hj q => ⟨q, ?_⟩)⟩
      have e1 : isT M s t = 0 := if_neg (fun y => hE.2.2.2 t t1 y hin)
      have e2 : ∀ j, j < m → isU M s j t = 0 := fun j hj => if_neg (fun y => by
        have := (hE.1 j hj).2.2.1.1
        rw [← y] at this
        exact this hin)
      have z0 : ((0 : Int) : Rat) = 0 := rfl
      rw [hwr, hwr]
      by_cases qa : a = i
      · rw [if_pos qa, if_pos qa]
        by_cases qj : j = m
        · rw [if_pos qj, if_pos qj, hstep, e1, z0]; grind
        · rw [if_neg qj, if_neg qj, hstep, e2 j (by omega), z0]; grind
      · rw [if_neg qa, if_neg qa]
    · have hkey : ∃ j : Nat, w = j ∧ j ≤ m ∧ (∀ a l, a < i + 1 → l ≤ m → wrA M s m i (b + 1) a l = if a = i ∧ l = j then wrA M s m i b i j + (if v = 0 then - chq M s (bg M s c + b) else chq M s (bg M s c + b)) else wrA M s m i b a l) := by
        have z0 : ((0 : Int) : Rat) = 0 := rfl
        have z1 : ((1 : Int) : Rat) = 1 := rfl
        by_cases q3 : mI M (s + 22) t = 3
        · rw [if_pos q3] at hv
          rw [if_neg (by omega)] at hw
          refine ⟨m, hw, by omega, fun a l ha hl => ?_⟩
          have e1 : isT M s t = 1 := if_pos q3
          have e2 : ∀ j, j < m → isU M s j t = 0 := fun j hj => if_neg (fun y => by
            have := (hE.1 j hj).2.2.1.2
            rw [← y] at this
            exact this q3)
          rw [if_neg (show ¬ v = 0 by omega), hwr, hwr, hwr, if_pos rfl, if_pos rfl]
          by_cases qa : a = i
          · rw [if_pos qa]
            by_cases qj : l = m
            · rw [if_pos qj, if_pos ⟨qa, qj⟩, hstep, e1, z1]; grind
            · rw [if_neg qj, if_neg (show ¬ (a = i ∧ l = m) from fun y => qj y.2), if_pos qa, if_neg qj, hstep, e2 l (by omega), z0]; exact alg4
          · rw [if_neg qa, if_neg (fun y => qa y.1), if_neg qa]
        · rw [if_neg q3] at hv
          rw [if_pos hv] at hw
          obtain ⟨r1, r2, r3⟩ := hE.2.1 t t1 ⟨hin, q3⟩
          have e1 : isT M s t = 0 := if_neg q3
          have er : (mI M (s + 40) t).toNat < m ∧ ((mI M (s + 40) t).toNat : Int) = mI M (s + 40) t := by omega
          have euj : uu M s (mI M (s + 40) t).toNat = t := by unfold uu; omega
          refine ⟨(mI M (s + 40) t).toNat, by omega, by omega, fun a l ha hl => ?_⟩
          have e2 : ∀ j, j < m → isU M s j t = if j = (mI M (s + 40) t).toNat then 1 else 0 := fun j hj => by
            unfold isU
            by_cases y : j = (mI M (s + 40) t).toNat
            · rw [if_pos y, if_pos (by rw [y, euj])]
            · rw [if_neg y, if_neg (fun z => y (by
                have q := (hE.1 j hj).2.2.2
                rw [← z] at q
                omega))]
          rw [if_pos hv, hwr, hwr, hwr, if_pos rfl, if_neg (show ¬ (mI M (s + 40) t).toNat = m by omega)]
          by_cases qa : a = i
          · rw [if_pos qa]
            by_cases qj : l = m
            · rw [if_pos qj, if_neg (by omega), if_pos qa, if_pos qj, hstep, e1, z0]; grind
            · rw [if_neg qj, hstep, e2 l (by omega)]
              by_cases y : l = (mI M (s + 40) t).toNat
              · rw [if_pos y, if_pos (show a = i ∧ l = (mI M (s + 40) t).toNat from ⟨qa, y⟩), z1, ← y]; exact alg3
              · rw [if_neg y, if_neg (show ¬ (a = i ∧ l = (mI M (s + 40) t).toNat) from fun z => y z.2), if_pos qa, if_neg qj, z0]; exact alg4
          · rw [if_neg qa, if_neg (fun y => qa y.1), if_neg qa]
      obtain ⟨j, ew, hj, hA⟩ := hkey
      have hv01 : v = 0 ∨ v = 1 := by split at hv <;> omega
      clear hin hv hw
      subst ew
      refine (s_MS_cell (by omega) (by omega) o2 V2).mono (fun x M3 h3' => ?_)
      obtain ⟨e3, hx⟩ := h3'
      subst e3 hx
      rw [V2.r9, V2.r10, V2.r26, V2.n27, V2.n28, fe (s + 27) (by omega), fe (s + 28) (by omega)]
      refine ⟨o2, V2.k0, V2.k27, by omega, V2.k28, by omega, W2.2.1.1.1, (s_MF_set ⟨by omega, by omega⟩ (by omega) ⟨by omega, by omega⟩ (by omega) o2 W2.2.1 (by omega)).mono (fun M4 h4' => ?_)⟩
      obtain ⟨o4, f4, F4, y1, y2, -⟩ := h4'
      have f4' : FI (fun y => s + 42 ≤ y ∧ y ≤ s + 46) M3 M4 := f4.mono (fun y q => by have : s + 42 ≤ y ∧ y ≤ s + 42 + 4 := q; omega)
      have V4 := V2.fi f4
      have W4 : Wk M4 s := W2.put f4 F4.ft (by omega)
      have T4 := T2.out f4' (fun y q => by omega)
      have P4 := P2.out f4' (fun y q => by omega)
      have c4 := P4 i j (by omega) (by omega) ⟨by omega, hj⟩
      have z1 := F4.2.1.1.2.2.2.2.2.2
      have z2 := F4.2.2.1.1.2.2.2.2.2.2
      have z3 := c4.1.2.1.1.2.2.2.2.2.2
      have z4 := c4.1.2.2.1.1.2.2.2.2.2.2
      refine ⟨o4, V4.k0, fun x84 h84 => ?_⟩
      have h84' : x84 = 0 ∨ x84 = 1 := by split at h84 <;> omega
      rw [V4.r0, V4.r26]
      refine ⟨W4.1.1.1, (s_MU_add (d := d) h84' o4 W4.1 c4.1 F4 (by unfold suO cel; omega) (by unfold suO; omega) (by omega) (by omega) (by omega)).mono (fun M5 h5 => ?_)⟩
      have v5 := fv_add h84' c4.1 F4 h5
      rw [c4.2.2, fv_set y1 y2, hch] at v5
      have v6 : fv M5 (s + 1 + 1) = wrA M s m i (b + 1) i j := by
        rw [v5, hA i j (by omega) hj, if_pos (show i = i ∧ j = j from ⟨rfl, rfl⟩)]
        rcases hv01 with q | q
        · rw [if_pos q] at h84
          rw [if_pos h84, if_pos q]
          exact Rat.sub_eq_add_neg ..
        · rw [if_neg (by omega)] at h84
          rw [if_neg (show ¬ x84 = 1 by omega), if_neg (show ¬ v = 0 by omega)]
      obtain ⟨o5, f5, Z5, F5, C5, -⟩ := h5
      have f5' : FI (fun y => s + 2 ≤ y ∧ y ≤ s + 21) M4 M5 := f5.mono (fun y q => by omega)
      have V5 := V4.fi f5
      have W5 : Wk M5 s := W4.out f5' Z5 (fun y q => by omega)
      have T5 := T4.out f5' (fun y q => by omega)
      have P5 := P4.out f5' (fun y q => by omega)
      have hsm := sml_size F5 C5 (by rw [v6]; exact hsml (b + 1) j (by omega))
      have c5 := P5 i j (by omega) (by omega) ⟨by omega, hj⟩
      rw [V5.r0, Z5.1.2.1]
      refine ⟨o5, V5.k0, Z5.1.1, c5.1.1.1, (s_MF_copy o5 c5.1.ft F5 (by unfold cel; omega) hsm.1 hsm.2).mono (fun M6 h6 => ?_)⟩
      obtain ⟨o6, f6, F6, w4, w5, w6⟩ := h6
      have C6 := fc_copy C5 w4 w5 w6
      have f6' : FI (fun y => s + 12868 ≤ y ∧ y ≤ s + 21067) M5 M6 := f6.mono (fun x q => by have q' : cel s i j ≤ x ∧ x ≤ cel s i j + 4 := q; unfold cel at q'; omega)
      have P6 := P5.put (Q := fun a j => a < i + 1 ∧ j ≤ m) (B := wrA M s m i (b + 1)) (by omega) (by omega) f6 F6 C6.1 (C6.2.trans v6) (fun a l q => by
        by_cases z : a = i ∧ l = j
        · exact Or.inl z
        · exact Or.inr ⟨q, by rw [hA a l q.1 q.2, if_neg z]⟩)
      exact ⟨o6, hlast M6 ⟨o6, ((f2.trans (f4'.mono (fun y q => by omega))).trans (f5'.mono (fun y q => by omega))).trans (f6'.mono (fun y q => by omega)), W5.far f6' (fun y q => by omega), T5.put (by omega) (by omega) f6 F6.ft, P6⟩⟩
theorem s_MS_writeRows (hm : m ≤ 40) (hO : mOk M) (hV : Vk M s) (hG : GW M s) (hC : GB M s) (h24 : mI M s 24 = m) (hE : Enu M s m) (hW : Wk M s) (hT : Ct M s) :
    Cv G y_MS_writeRows (d + 5) [vr s] M (fun M' => mOk M' ∧ FI (rS s) M M' ∧ Wk M' s ∧ Ct M' s ∧ Tb M' s m (tA (rowp M s m) m 0)) := by
  refine k_MS_writeRows hO ?_
  suffices H : ∀ (n i : Nat) (M2 : mM), i + n = m → wrI M s (fun a j => a < i ∧ j ≤ m) (tA (rowp M s m) m 0) M2 → h_MS_writeRows_2 G (d + 4) s i M2 (fun M' => mOk M' ∧ FI (rS s) M M' ∧ Wk M' s ∧ Ct M' s ∧ Tb M' s m (tA (rowp M s m) m 0)) from
    H m 0 M (by omega) ⟨hO, FI.refl, hW, hT, fun i j _ _ q => by omega⟩
  intro n
  induction n with
  | zero =>
    intro i M2 hn hw
    have ei : i = m := by omega
    subst ei
    have fe := hw.2.1.2.2.2.2.2.2
    refine k_MS_writeRows_2 hw.1 ⟨by omega, by omega⟩ ?_
    rw [fe s (by omega), h24]
    exact ⟨(hV.fi hw.2.1).k0, fun _ => ⟨hw.1, hw.2.1, hw.2.2.1, hw.2.2.2.1, fun a j ha hj => hw.2.2.2.2 a j (by omega) (by omega) ⟨ha, hj⟩⟩, fun q => by omega⟩
  | succ n ih =>
    intro i M2 hn hw
    have hi : i < m := by omega
    have fe := hw.2.1.2.2.2.2.2.2
    refine k_MS_writeRows_2 hw.1 ⟨by omega, by omega⟩ ?_
    rw [fe s (by omega), h24]
    refine ⟨(hV.fi hw.2.1).k0, fun q => by omega, fun _ => ?_⟩
    have h77 := s_wr77 (G := G) (d := d) hm hi hV hG hC h24 hE (fun M' w => ih (i + 1) M' (by omega) w)
    suffices H : ∀ (t l : Nat) (M3 : mM), l + t = m + 1 → wrI M s (fun a j => (a < i ∧ j ≤ m) ∨ (a = i ∧ j < l)) (wrA M s m i 0) M3 → h_MS_writeRows_12 G (d + 4) s i l M3 (fun M' => mOk M' ∧ FI (rS s) M M' ∧ Wk M' s ∧ Ct M' s ∧ Tb M' s m (tA (rowp M s m) m 0)) from
      H (m + 1) 0 M2 (by omega) ⟨hw.1, hw.2.1, hw.2.2.1, hw.2.2.2.1, hw.2.2.2.2.congr (fun a j ha hj q => ⟨by omega, by
        unfold wrA
        rw [if_neg (by omega)]⟩)⟩
    clear hw fe M2
    obtain ⟨u1, u2, u3, u4⟩ := hE.1 i hi
    have u5 := hE.2.2.1 i hi
    have huu : (uu M s i : Int) = mI M (s + 39) i := by unfold uu; omega
    have hc := hG.cmd (i := uu M s i) (by omega)
    have hi' := u5.2
    unfold mny at hi'
    have hcx : (rwc M s i : Int) = mI M (s + 23) (uu M s i) + mI M (s + 35) (uu M s i) := by unfold rwc cx pl; omega
    have hc2 : (rwc M s i : Int) < mI M s 2 := by omega
    have h2 := hG.2.1
    have h3 := hG.2.2.1
    intro t
    induction t with
    | zero =>
      intro l M3 hl hw
      have fe := hw.2.1.2.2.2.2.2.2
      have V3 := hV.fi hw.2.1
      have el : l = m + 1 := by omega
      subst el
      refine k_MS_writeRows_12 hw.1 ⟨by omega, by omega⟩ ⟨by omega, by omega⟩ ?_
      rw [V3.r22, V3.r5, V3.r18, V3.r7, V3.n39, V3.n23, V3.n35, V3.n25, fe s (by omega), h24, fe (s + 39) (by omega), fe (s + 23) (by omega), fe (s + 35) (by omega), fe (s + 25) (by omega), Int.toNat_natCast]
      have ef : (mI M (s + 39) i).toNat = uu M s i := rfl
      rw [ef, ← hcx, Int.toNat_natCast]
      refine ⟨V3.k0, fun _ => ⟨V3.k39, by omega, V3.k23, by omega, by omega, V3.k35, by omega, V3.k25, by omega, ?_⟩, fun q => by omega⟩
      have a := h77 (nb M s (rwc M s i)) 0 M3 (by omega) ⟨hw.1, hw.2.1, hw.2.2.1, hw.2.2.2.1, hw.2.2.2.2.congr (fun a j ha hj q => ⟨by omega, rfl⟩)⟩
      rw [show mI M (s + 25) (rwc M s i) + ((0 : Nat) : Int) = mI M (s + 25) (rwc M s i) by omega] at a
      exact a
    | succ t iht =>
      intro l M3 hl hw
      obtain ⟨o3, f3, W3, T3, P3⟩ := hw
      have fe := f3.2.2.2.2.2.2
      have V3 := hV.fi f3
      refine k_MS_writeRows_12 o3 ⟨by omega, by omega⟩ ⟨by omega, by omega⟩ ?_
      rw [fe s (by omega), h24]
      refine ⟨V3.k0, fun q => by omega, fun _ => (s_MS_cell (by omega) (by omega) o3 V3).mono (fun x M4 h4 => ?_)⟩
      obtain ⟨e4, hx⟩ := h4
      subst e4 hx
      have cf := T3 i l (by omega) (by omega)
      refine ⟨o3, fun v hv => ⟨cf.1.1, (s_MF_set ⟨by split at hv <;> omega, by split at hv <;> omega⟩ (by split at hv <;> omega) ⟨by omega, by omega⟩ (by omega) o3 cf (by omega)).mono (fun M5 h5 => ?_)⟩⟩
      obtain ⟨o5, f5, F5, y1, y2, y3⟩ := h5
      have C5 := fc_one F5 y2 (fun q => y3 (by omega))
      have e5 : fv M5 (cel s i l) = wrA M s m i 0 i l := by
        rw [fv_set y1 y2]
        unfold wrA
        rw [if_pos rfl]
        have z0 : ((0 : Int) : Rat) = 0 := rfl
        have z1 : ((1 : Int) : Rat) = 1 := rfl
        have c0 : ∀ f, cwp M s (rwc M s i) 0 f = 0 := fun f => rfl
        rw [c0, c0, z1]
        by_cases q : l = m
        · rw [if_pos q]
          rw [if_neg (by omega)] at hv
          rw [hv, z0]; grind
        · rw [if_neg q]
          by_cases z : i = l
          · rw [if_pos z]
            rw [if_pos (by omega)] at hv
            rw [hv, z1]; grind
          · rw [if_neg z]
            rw [if_neg (by omega)] at hv
            rw [hv, z0]; grind
      have f5' : FI (fun y => s + 12868 ≤ y ∧ y ≤ s + 21067) M4 M5 := f5.mono (fun x q => by have q' : cel s i l ≤ x ∧ x ≤ cel s i l + 4 := q; unfold cel at q'; omega)
      have P5 := P3.put (Q := fun a j => (a < i ∧ j ≤ m) ∨ (a = i ∧ j < l + 1)) (B := wrA M s m i 0) (by omega) (by omega) f5 F5 C5 e5 (fun a j q => by
        by_cases z : a = i ∧ j = l
        · exact Or.inl z
        · exact Or.inr ⟨by omega, rfl⟩)
      exact ⟨o5, iht (l + 1) M5 (by omega) ⟨o5, f3.trans (f5'.mono (fun y q => by omega)), W3.far f5' (fun y q => by omega), T3.put (by omega) (by omega) f5 F5.ft, P5⟩⟩
end VS
