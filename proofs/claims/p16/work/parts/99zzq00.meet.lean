/-! The class's machine, exactly: meet, comeBack, the steps of vars and formulas. -/
section QAD
variable {G : mG} {d z m U Ab Be C Ab0 Be0 C0 t s c p O P K : Nat} {M0 M M' M1 M2 : mM} {S R : Nat → Prop}
theorem ab1z {m z A k j : Nat} (s : A = m + j ∨ z ≤ A) (hz : m + 10 ≤ z) (hk : k ≤ 9) (h : k ≠ j) : A ≠ m + k := by omega
theorem ab3z {m z A j : Nat} (s : A = m + j ∨ z ≤ A) (hz : m + 10 ≤ z) (hj : j = 3 ∨ j = 4) : ¬ (A = m ∨ A = m + 8 ∨ A = m + 9) := by omega
theorem ab4z {m z A j : Nat} (s : A = m + j ∨ z ≤ A) (hz : m + 10 ≤ z) (hj : j = 3 ∨ j = 4) : ¬ (A = m ∨ (m + 5 ≤ A ∧ A ≤ m + 7)) := by omega
theorem p8nz {m p : Nat} (h : p + 15 < m ∨ m + 9 < p) : ¬ (p + 8 = m ∨ p + 8 = m + 8 ∨ p + 8 = m + 9) := by omega
theorem x_Ma_meet {x : Nat} {pc : Int} (h : MS M0 z m U Ab0 Be0 C0 M t c) (hp : PK M z p O P K) (h0 : mR M m 0 = p) (hx : x < 60) (hc : c ≤ 60) (ht : t ≤ 16384) (ipc : i32 pc) (hv : mI M (m + 5) x = mI M m 9 → 1 ≤ mI M (m + 7) x ∧ mI M (m + 7) x < 1000000000) (hne : p + 15 < m ∨ m + 9 < p) : Ci G y_Ma_meet (d + 3) [vr m, vi x, vi pc] M (fun r M' => (r = pc ∧ mI M (m + 5) x = mI M m 9 ∧ MS M0 z m U Ab0 Be0 C0 M' (t + 1) c ∧ mtq m M M' ∧ plq M M' m t ∧ ptq M' m t (mI M (m + 6) x) (mI M (m + 7) x)) ∨ (r = mI M (p + 8) x ∧ mI M (m + 5) x ≠ mI M m 9 ∧ plq M M' m t ∧ (mI M' (m + 6) = mI M (m + 6) ∧ mI M' (m + 2) = mI M (m + 2)) ∧ MS M0 z m U Ab0 Be0 C0 M' t (c + 1) ∧ mI M' (m + 5) = mI M (m + 5) ∧ mI M' (m + 7) = mI M (m + 7) ∧ (∀ i, mI M' (m + 8) i = if i = c then (x : Int) else mI M (m + 8) i) ∧ (∀ i, mI M' (m + 9) i = if i = c then pc else mI M (m + 9) i))) := by
  obtain ⟨Ab, Be, C, ok, hk, hf, hab, hr, ⟨h8, htC, hb⟩, h15, hm⟩ := id h
  obtain ⟨k0, ⟨r3, r5, r6, r7, r10, r11, r12, r13, r14⟩, ⟨kU, k2, kA, kB, k5, k6, k7, k8, k9⟩, ⟨n2, nA, nB, n5, n6, n7, n8, n9⟩, hbs, ⟨sA, sB, sne, sz⟩, ⟨z0, zA, zB, zU⟩, ⟨c64, c32⟩⟩ := id hk
  obtain ⟨pk, -, -, -, -, -, ⟨⟨-, -, -, -, -, p10, -⟩, ⟨-, -, -, -, -, pk10, -⟩, ⟨-, -, -, -, -, pn10, -⟩⟩⟩ := id hp
  refine k_Ma_meet ok (i32s (by omega) (by omega)) ipc ?_
  rw [r10, n5, r11, n6, r12, n7, r13, n8, h15, Int.toNat_natCast, Int.toNat_natCast]
  refine ⟨k0, k5, by omega, fun e => ⟨k6, by omega, k7, by omega, (x_Ma_push h ht (ok _ _).1 (hv e)).mono (fun M' q => ⟨q.1.pile.1, Or.inl ⟨rfl, e, q.1, q.2.1, q.2.2.1, q.2.2.2⟩⟩)⟩, fun ue => ⟨k8, by omega, fun M15 e15 => ?_⟩⟩
  have f15 : FI (fun b => b = m + 8) M M15 := by rw [e15]; exact FI.ui rfl
  rw [f15.2.2.1, r14, f15.1, f15.2.1, f15.2.2.2.2.2.2 m (by omega), h15, n9, Int.toNat_natCast]
  refine ⟨k9, by omega, fun M19 e19 => ?_⟩
  have f19 : FI (fun b => b = m + 9) M15 M19 := by rw [e19]; exact FI.ui rfl
  rw [f19.2.2.2.2.2.2 m (by omega), f15.2.2.2.2.2.2 m (by omega), h15]
  refine ⟨⟨by omega, by omega⟩, fun M22 e22 => ?_⟩
  have f22 : FI (fun b => b = m) M19 M22 := by rw [e22]; exact FI.ui rfl
  have ff : FI (fun b => b = m ∨ b = m + 8 ∨ b = m + 9) M M22 := ((f15.mono (fun _ q => Or.inr (Or.inl q))).trans (f19.mono (fun _ q => Or.inr (Or.inr q)))).trans (f22.mono (fun _ q => Or.inl q))
  have i22 : ∀ i, mI M22 m i = if i = 15 then (c : Int) + 1 else mI M m i := fun i => by
    rw [mI_ui m i e22]
    by_cases y : i = 15
    · rw [if_pos ⟨rfl, y⟩, if_pos y]
    · rw [if_neg (fun q => y q.2), if_neg y, f19.2.2.2.2.2.2 m (by omega), f15.2.2.2.2.2.2 m (by omega)]
  have o22 : mOk M22 := by rw [e22]; exact mOk_UI (by rw [e19]; exact mOk_UI (by rw [e15]; exact mOk_UI ok (i32s (by omega) (by omega))) ipc) ⟨by omega, by omega⟩
  rw [ff.1, ff.2.1, ff.2.2.1, h0, p10, pn10, ff.2.2.2.2.2.2 (p + 8) (p8nz hne)]
  refine ⟨pk, pk10, by omega, Or.inr ⟨rfl, ue, fun j hj => by rw [ff.2.2.1, r6, r7, ff.2.2.2.2.2.2 Ab (ab3z sA sz (Or.inl rfl)), ff.2.2.2.2.2.2 Be (ab3z sB sz (Or.inr rfl))]; exact ⟨rfl, rfl⟩, ⟨ff.2.2.2.2.2.2 _ (by omega), ff.2.2.2.2.2.2 _ (by omega)⟩, ms_step (t' := t) (c' := c + 1) o22 hk hf hab hr hm (ff.mono (fun b q => by
      rcases q with q | q | q
      · exact Or.inl q
      · exact Or.inr (Or.inr (Or.inl (by omega)))
      · exact Or.inr (Or.inr (Or.inl (by omega))))) (by rw [i22, if_neg (by decide)]) (by rw [i22, if_neg (by decide)]) (by rw [i22, if_neg (by decide)]; exact h8) htC (fun j hj => by rw [ff.2.2.2.2.2.2 Be (ab3z sB sz (Or.inr rfl))]; exact hb j hj) (by rw [i22, if_pos rfl]; omega), ff.2.2.2.2.2.2 _ (by omega), ff.2.2.2.2.2.2 _ (by omega), fun i => ?_, fun i => ?_⟩⟩
  · rw [f22.2.2.2.2.2.2 _ (by omega), f19.2.2.2.2.2.2 _ (by omega), mI_ui _ i e15]
    by_cases y : i = c
    · rw [if_pos ⟨rfl, y⟩, if_pos y]
    · rw [if_neg (fun q => y q.2), if_neg y]
  · rw [f22.2.2.2.2.2.2 _ (by omega), mI_ui _ i e19]
    by_cases y : i = c
    · rw [if_pos ⟨rfl, y⟩, if_pos y]
    · rw [if_neg (fun q => y q.2), if_neg y, f15.2.2.2.2.2.2 _ (by omega)]
theorem x_Ma_comeBack {x : Nat} (h : MS M0 z m U Ab0 Be0 C0 M (t + 1) (c + 1)) (hx : mI M (m + 8) c = x) (hx6 : x < 60) (hc : c ≤ 60) : Ci G y_Ma_comeBack d [vr m] M (fun r M' => r = mI M (m + 9) c ∧ MS M0 z m U Ab0 Be0 C0 M' (t + 1) c ∧ mI M' (m + 8) = mI M (m + 8) ∧ mI M' (m + 9) = mI M (m + 9) ∧ (∀ i, mI M' (m + 5) i = if i = x then mI M m 9 else mI M (m + 5) i) ∧ (∀ i, i ≠ x → mI M' (m + 7) i = mI M (m + 7) i) ∧ (mI M' (m + 6) x = mI M (mR M m 6) t ∧ mI M' (m + 7) x = mI M (mR M m 7) t) ∧ (∀ i, i ≠ x → mI M' (m + 6) i = mI M (m + 6) i) ∧ plq M M' m (t + 1) ∧ mI M' (m + 2) = mI M (m + 2) ∧ 1 ≤ mI M' (m + 7) x ∧ mI M' (m + 7) x < 1000000000) := by
  obtain ⟨Ab, Be, C, ok, hk, hf, hab, hr, ⟨h8, htC, hb⟩, h15, hm⟩ := id h
  obtain ⟨k0, ⟨r3, r5, r6, r7, r10, r11, r12, r13, r14⟩, ⟨kU, k2, kA, kB, k5, k6, k7, k8, k9⟩, ⟨n2, nA, nB, n5, n6, n7, n8, n9⟩, hbs, ⟨sA, sB, sne, sz⟩, ⟨z0, zA, zB, zU⟩, ⟨c64, c32⟩⟩ := id hk
  refine k_Ma_comeBack ok ⟨k0, ⟨by omega, by omega⟩, fun M3 e3 => ?_⟩
  have f3 : FI (fun b => b = m) M M3 := by rw [e3]; exact FI.ui rfl
  have i3 : mI M3 m 15 = c := by rw [mI_ui m 15 e3, if_pos ⟨rfl, rfl⟩]; omega
  have g3 : ∀ i, i ≠ 15 → mI M3 m i = mI M m i := fun i hi => by rw [mI_ui m i e3, if_neg (fun q => hi q.2)]
  rw [f3.2.2.1, r13, r10, f3.1, f3.2.1, n8, n5, i3, Int.toNat_natCast, f3.2.2.2.2.2.2 (m + 8) (by omega), hx, Int.toNat_natCast, g3 9 (by decide)]
  refine ⟨k8, by omega, k5, by omega, fun M9 e9 => ?_⟩
  have f9 : FI (fun b => b = m + 5) M3 M9 := by rw [e9]; exact FI.ui rfl
  have g9 : mI M9 m = mI M3 m := f9.2.2.2.2.2.2 m (by omega)
  have q1 : Int.toNat (mI M m 8 - 1) = t := by omega
  rw [f9.2.2.1, f9.1, f9.2.1, f3.2.2.1, f3.1, f3.2.1, r6, r11, nA, n6, g9, g3 8 (by decide), q1]
  refine ⟨kA, by omega, k6, by omega, fun M15 e15 => ?_⟩
  have f15 : FI (fun b => b = m + 6) M9 M15 := by rw [e15]; exact FI.ui rfl
  have g15 : mI M15 m = mI M3 m := by rw [f15.2.2.2.2.2.2 m (by omega), g9]
  rw [f15.2.2.1, f15.1, f15.2.1, f9.2.2.1, f9.1, f9.2.1, f3.2.2.1, f3.1, f3.2.1, r7, r12, nB, n7, g15, g3 8 (by decide), q1]
  have eB : mI M15 Be t = mI M Be t := by rw [f15.2.2.2.2.2.2 Be (ab1z sB sz (by decide) (by decide)), f9.2.2.2.2.2.2 Be (ab1z sB sz (by decide) (by decide)), f3.2.2.2.2.2.2 Be (ab1z (k := 0) sB sz (by decide) (by decide))]
  refine ⟨kB, by omega, k7, by omega, fun M21 e21 => ?_⟩
  have f21 : FI (fun b => b = m + 7) M15 M21 := by rw [e21]; exact FI.ui rfl
  have g21 : mI M21 m = mI M3 m := by rw [f21.2.2.2.2.2.2 m (by omega), g15]
  have ff : FI (fun b => b = m ∨ (m + 5 ≤ b ∧ b ≤ m + 7)) M M21 := (((f3.mono (fun _ q => Or.inl q)).trans (f9.mono (fun _ q => Or.inr (by omega)))).trans (f15.mono (fun _ q => Or.inr (by omega)))).trans (f21.mono (fun _ q => Or.inr (by omega)))
  have o21 : mOk M21 := by rw [e21]; exact mOk_UI (by rw [e15]; exact mOk_UI (by rw [e9]; exact mOk_UI (by rw [e3]; exact mOk_UI ok ⟨by omega, by omega⟩) (ok _ _).1) ((by rw [e9]; exact mOk_UI (by rw [e3]; exact mOk_UI ok ⟨by omega, by omega⟩) (ok _ _).1 : mOk M9) _ _).1) ((by rw [e15]; exact mOk_UI (by rw [e9]; exact mOk_UI (by rw [e3]; exact mOk_UI ok ⟨by omega, by omega⟩) (ok _ _).1) ((by rw [e9]; exact mOk_UI (by rw [e3]; exact mOk_UI ok ⟨by omega, by omega⟩) (ok _ _).1 : mOk M9) _ _).1 : mOk M15) _ _).1
  rw [ff.2.2.1, ff.1, ff.2.1, r14, n9, g21, i3, Int.toNat_natCast, ff.2.2.2.2.2.2 (m + 9) (by omega)]
  refine ⟨k9, by omega, rfl, ms_step (t' := t + 1) (c' := c) o21 hk hf hab hr hm (ff.mono (fun b q => by
      rcases q with q | q
      · exact Or.inl q
      · exact Or.inr (Or.inr (Or.inl (by omega))))) (by rw [g21, g3 4 (by decide)]) (by rw [g21, g3 9 (by decide)]) (by rw [g21, g3 8 (by decide)]; exact h8) htC (fun j hj => by rw [ff.2.2.2.2.2.2 Be (ab4z sB sz (Or.inr rfl))]; exact hb j hj) (by rw [g21]; exact i3), ff.2.2.2.2.2.2 _ (by omega), rfl, fun i => ?_, fun i hi => ?_, ⟨?_, ?_⟩, fun i hi => ?_, fun j hj => ?_, ff.2.2.2.2.2.2 _ (by omega), ?_⟩
  · rw [f21.2.2.2.2.2.2 _ (by omega), f15.2.2.2.2.2.2 _ (by omega), mI_ui _ i e9]
    by_cases y : i = x
    · rw [if_pos ⟨rfl, y⟩, if_pos y]
    · rw [if_neg (fun q => y q.2), if_neg y, f3.2.2.2.2.2.2 _ (by omega)]
  · rw [mI_ui _ i e21, if_neg (fun q => hi q.2), f15.2.2.2.2.2.2 _ (by omega), f9.2.2.2.2.2.2 _ (by omega), f3.2.2.2.2.2.2 _ (by omega)]
  · rw [f21.2.2.2.2.2.2 _ (by omega), mI_ui _ x e15, if_pos ⟨rfl, rfl⟩, f9.2.2.2.2.2.2 Ab (ab1z sA sz (by decide) (by decide)), f3.2.2.2.2.2.2 Ab (ab1z (k := 0) sA sz (by decide) (by decide))]
  · rw [mI_ui _ x e21, if_pos ⟨rfl, rfl⟩, eB]
  · rw [f21.2.2.2.2.2.2 _ (by omega), mI_ui _ i e15, if_neg (fun q => hi q.2), f9.2.2.2.2.2.2 _ (by omega), f3.2.2.2.2.2.2 _ (by omega)]
  · rw [ff.2.2.1, r6, r7, ff.2.2.2.2.2.2 Ab (ab4z sA sz (Or.inl rfl)), ff.2.2.2.2.2.2 Be (ab4z sB sz (Or.inr rfl))]
    exact ⟨rfl, rfl⟩
  · rw [mI_ui _ x e21, if_pos ⟨rfl, rfl⟩, eB]
    exact hb t (by omega)
end QAD
section QAE
variable {G : mG} {d z m U Ab0 Be0 C0 t c p O P K L i pc tt : Nat} {M0 M : mM} {Q : Int → mM → Prop} {a b : Int}
theorem run_var {x : Nat} (hE : Rnv M0 z m Ab0 Be0 p O P K L) (hpc : pc < L) (hi : i < 1000000) (hM : MS M0 z m U Ab0 Be0 C0 M t c) (ht : t ≤ 16384) (o : mI M0 O pc = 5) (ox : mI M0 P pc = x) (hx : x < 12) (hU : ¬ mcS m Ab0 Be0 U ∧ U < mZ M0) (next : ∀ M', MS M0 z m U Ab0 Be0 C0 M' (t + 1) c → mtq m M M' → plq M M' m t → ptq M' m t (mI M0 U ((mI M0 m 4).toNat + x)) 1 → h_Ma_run_14 G (d + 3) m ((pc + 1 : Nat) : Int) ((i + 1 : Nat) : Int) M' Q) : h_Ma_run_14 G (d + 3) m (pc : Int) (i : Int) M Q := by
  obtain ⟨hp, hm0, ha, hL, hLK, hLn⟩ := hE
  obtain ⟨ok, k0, h8, kA, kB, tA, tB, bA, bB, hb, ⟨mA, mB⟩, ne⟩ := hM.pile
  obtain ⟨hp1, hr0, iO, iP, iT⟩ := hM.prog hp hm0 ha
  obtain ⟨pk, ⟨pr0, pr1⟩, ⟨kO, kP, nO, nP⟩, -, -, -, ⟨⟨-, -, -, p8, p9, -⟩, ⟨-, -, -, pk8, pk9, -⟩, ⟨-, -, -, pn8, pn9, -⟩⟩⟩ := id hp1
  have l2 : mI M p 2 = L := by rw [show p = p + 0 by omega, iT 0 (by omega)]; exact hL
  have no : ¬ ((1000000 : Int) ≤ (i : Int) ∨ ((pc : Int) < 0 ∨ mI M (mR M m 0) 2 ≤ (pc : Int))) := by rw [hr0, l2]; omega
  refine k_Ma_run_14 ok (i32s (by omega) (by omega)) ⟨by omega, by omega⟩ ⟨fun _ _ => ⟨k0, by rw [hr0]; exact pk⟩, fun y => absurd y no, fun _ => ?_⟩
  rw [hr0, pr0, pr1, p8, p9, pn8, pn9, nO, nP, iO, iP, Int.toNat_natCast, show ((i : Int) + 1) = ((i + 1 : Nat) : Int) by omega, show ((pc : Int) + 1) = ((pc + 1 : Nat) : Int) by omega]
  obtain ⟨_, _, _, -, hk, hf, -, -, -, -, hm⟩ := id hM
  have r3 := hk.2.1.1
  have kU := hk.2.2.1.1
  have bs0 := hk.2.2.2.2.1
  have eU : mI M U = mI M0 U := (hf.2 U hU.2).2.2.2.2 hU.1
  have i0 : i32 (mI M0 U ((mI M0 m 4).toNat + x)) := by rw [← eU]; exact (ok _ _).1
  rw [hm.2.1] at bs0
  rw [ox, r3, eU, hm.2.1, show Int.toNat (mI M0 m 4 + (x : Int)) = (mI M0 m 4).toNat + x by omega]
  refine ⟨k0, pk, kO, by omega, kP, by omega, fun o0 => absurd o0 (by rw [o]; decide), fun _ => ⟨fun o3 => absurd o3 (by rw [o]; decide), fun _ => ⟨fun o4 => absurd o4 (by rw [o]; decide), fun _ => ⟨fun _ => ⟨kU, by omega, (x_Ma_push hM ht i0 ⟨by omega, by omega⟩).mono (fun M' q => ⟨q.1.pile.1, next M' q.1 q.2.1 q.2.2.1 q.2.2.2⟩)⟩, fun o5 => absurd o o5⟩⟩⟩⟩
theorem run_frm {x : Nat} (hE : Rnv M0 z m Ab0 Be0 p O P K L) (hpc : pc < L) (hi : i < 1000000) (hM : MS M0 z m U Ab0 Be0 C0 M t c) (ht : t ≤ 16384) (o : mI M0 O pc = 7) (ox : mI M0 P pc = x) (hx : x < 60) (hc : c ≤ 60) (hv : mI M (m + 5) x = mI M m 9 → 1 ≤ mI M (m + 7) x ∧ mI M (m + 7) x < 1000000000) {sx : Nat} (hs : mI M0 (p + 8) x = sx) (hsL : sx ≤ 16384) (met : mI M (m + 5) x = mI M m 9 → ∀ M', MS M0 z m U Ab0 Be0 C0 M' (t + 1) c → mtq m M M' → plq M M' m t → ptq M' m t (mI M (m + 6) x) (mI M (m + 7) x) → h_Ma_run_14 G (d + 3) m ((pc + 1 : Nat) : Int) ((i + 1 : Nat) : Int) M' Q) (cll : mI M (m + 5) x ≠ mI M m 9 → ∀ M', MS M0 z m U Ab0 Be0 C0 M' t (c + 1) → mI M' (m + 5) = mI M (m + 5) → (mI M' (m + 6) = mI M (m + 6) ∧ mI M' (m + 2) = mI M (m + 2)) → mI M' (m + 7) = mI M (m + 7) → (∀ i, mI M' (m + 8) i = if i = c then (x : Int) else mI M (m + 8) i) → (∀ i, mI M' (m + 9) i = if i = c then ((pc + 1 : Nat) : Int) else mI M (m + 9) i) → plq M M' m t → h_Ma_run_14 G (d + 3) m ((sx : Nat) : Int) ((i + 1 : Nat) : Int) M' Q) : h_Ma_run_14 G (d + 3) m (pc : Int) (i : Int) M Q := by
  obtain ⟨hp, hm0, ha, hL, hLK, hLn⟩ := hE
  obtain ⟨ok, k0, h8, kA, kB, tA, tB, bA, bB, hb, ⟨mA, mB⟩, ne⟩ := hM.pile
  obtain ⟨hp1, hr0, iO, iP, iT⟩ := hM.prog hp hm0 ha
  obtain ⟨pk, ⟨pr0, pr1⟩, ⟨kO, kP, nO, nP⟩, -, -, -, ⟨⟨-, -, -, p8, p9, -⟩, ⟨-, -, -, pk8, pk9, -⟩, ⟨-, -, -, pn8, pn9, -⟩⟩⟩ := id hp1
  have l2 : mI M p 2 = L := by rw [show p = p + 0 by omega, iT 0 (by omega)]; exact hL
  have no : ¬ ((1000000 : Int) ≤ (i : Int) ∨ ((pc : Int) < 0 ∨ mI M (mR M m 0) 2 ≤ (pc : Int))) := by rw [hr0, l2]; omega
  refine k_Ma_run_14 ok (i32s (by omega) (by omega)) ⟨by omega, by omega⟩ ⟨fun _ _ => ⟨k0, by rw [hr0]; exact pk⟩, fun y => absurd y no, fun _ => ?_⟩
  rw [hr0, pr0, pr1, p8, p9, pn8, pn9, nO, nP, iO, iP, Int.toNat_natCast, show ((i : Int) + 1) = ((i + 1 : Nat) : Int) by omega, show ((pc : Int) + 1) = ((pc + 1 : Nat) : Int) by omega]
  rw [ox]
  refine ⟨k0, pk, kO, by omega, kP, by omega, fun o0 => absurd o0 (by rw [o]; decide), fun _ => ⟨fun o3 => absurd o3 (by rw [o]; decide), fun _ => ⟨fun o4 => absurd o4 (by rw [o]; decide), fun _ => ⟨fun o5 => absurd o5 (by rw [o]; decide), fun _ => ⟨fun _ => (x_Ma_meet (p := p) hM hp1 hr0 hx hc ht (i32s (by omega) (by omega)) hv ha.1).mono (fun r M' q => ?_), fun o7 => absurd o o7⟩⟩⟩⟩⟩
  rcases q with ⟨w1, w2, w3, w4, w5, w6⟩ | ⟨w1, w2, w3, w4, w5, w6, w7, w8, w9⟩
  · rw [w1]
    exact ⟨i32s (by omega) (by omega), w3.pile.1, met w2 M' w3 w4 w5 w6⟩
  · rw [iT 8 (by omega), hs] at w1
    rw [w1]
    exact ⟨i32s (by omega) (by omega), w5.pile.1, cll w2 M' w5 w6 w4 w7 w8 w9 w3⟩
theorem run_back {M : mM} {t i pc : Nat} {Q : Int → mM → Prop} (hE : Rnv M0 z m Ab0 Be0 p O P K L) (hpc : pc < L) (hi : i < 1000000) {x c bk : Nat} (hM : MS M0 z m U Ab0 Be0 C0 M (t + 1) (c + 1)) (o : mI M0 O pc = 0) (hx : mI M (m + 8) c = x) (hx6 : x < 60) (hc : c ≤ 60) (hbk : mI M (m + 9) c = bk) (hb16 : bk ≤ 16384) (next : ∀ M', MS M0 z m U Ab0 Be0 C0 M' (t + 1) c → mI M' (m + 8) = mI M (m + 8) → mI M' (m + 9) = mI M (m + 9) → (∀ i, mI M' (m + 5) i = if i = x then mI M m 9 else mI M (m + 5) i) → (∀ i, i ≠ x → mI M' (m + 7) i = mI M (m + 7) i) → (mI M' (m + 6) x = mI M (mR M m 6) t ∧ mI M' (m + 7) x = mI M (mR M m 7) t) → (∀ i, i ≠ x → mI M' (m + 6) i = mI M (m + 6) i) → plq M M' m (t + 1) → mI M' (m + 2) = mI M (m + 2) → (1 ≤ mI M' (m + 7) x ∧ mI M' (m + 7) x < 1000000000) → h_Ma_run_14 G (d + 3) m ((bk : Nat) : Int) ((i + 1 : Nat) : Int) M' Q) : h_Ma_run_14 G (d + 3) m (pc : Int) (i : Int) M Q := by
  obtain ⟨hp, hm0, ha, hL, hLK, hLn⟩ := hE
  obtain ⟨ok, k0, h8, -⟩ := hM.pile
  obtain ⟨hp1, hr0, iO, iP, iT⟩ := hM.prog hp hm0 ha
  obtain ⟨pk, ⟨pr0, pr1⟩, ⟨kO, kP, nO, nP⟩, -⟩ := id hp1
  have l2 : mI M p 2 = L := by rw [show p = p + 0 by omega, iT 0 (by omega)]; exact hL
  have no : ¬ ((1000000 : Int) ≤ (i : Int) ∨ ((pc : Int) < 0 ∨ mI M (mR M m 0) 2 ≤ (pc : Int))) := by rw [hr0, l2]; omega
  have h15 : mI M m 15 = ((c + 1 : Nat) : Int) := by
    obtain ⟨_, _, _, -, -, -, -, -, -, h15, -⟩ := id hM
    exact h15
  refine k_Ma_run_14 ok (i32s (by omega) (by omega)) ⟨by omega, by omega⟩ ⟨fun _ _ => ⟨k0, by rw [hr0]; exact pk⟩, fun y => absurd y no, fun _ => ?_⟩
  rw [hr0, pr0, pr1, nO, nP, iO, iP, Int.toNat_natCast, show ((i : Int) + 1) = ((i + 1 : Nat) : Int) by omega]
  refine ⟨k0, pk, kO, by omega, kP, by omega, fun _ => ⟨fun u => absurd u (by omega), fun _ => (x_Ma_comeBack hM hx hx6 hc).mono (fun r M' q => ?_)⟩, fun u => absurd o u⟩
  obtain ⟨w1, w2, w3, w4, w5, w6, w7, w8, w9, w10, w11⟩ := q
  rw [w1, hbk]
  exact ⟨i32s (by omega) (by omega), w2.pile.1, next M' w2 w3 w4 w5 w6 w7 w8 w9 w10 w11⟩
end QAE
