/-! The class's reader: names, exactly. -/
/-- two words are spelt alike: v and x, letters at T, starts at B, lengths at D -/
def swq (M : mM) (T B D : Nat) (v x : Nat) : Prop := mI M D x = mI M D v ∧ ∀ i : Nat, (i : Int) < mI M D v → mI M T ((mI M B x).toNat + i) = mI M T ((mI M B v).toNat + i)
/-- the i-th name is the first that is spelt as v -/
def fm (M : mM) (r T B D c v i : Nat) : Prop := i < c ∧ swq M T B D v (mI M (r + 6) i).toNat ∧ ∀ j, j < i → ¬ swq M T B D v (mI M (r + 6) j).toNat
/-- no name is spelt as v -/
def nmn (M : mM) (r T B D c v : Nat) : Prop := ∀ j, j < c → ¬ swq M T B D v (mI M (r + 6) j).toNat
section RX6
variable {G : mG} {d z r w T A B D N C n p O P K k a a' s L L1 V F d0 c : Nat} {M0 M M' M1 M2 : mM} {H H1 : Nat → Nat} {ns : Nat → Int} {wt : Int}
theorem x_Wo_same {p q z : Nat} (hO : mOk M) (h : WA M w T A B D N C) (hp : p + z ≤ N) (hq : q + z ≤ N) : Ci G y_Wo_same d [vr w, vi p, vi q, vi z] M (fun r M' => M' = M ∧ (r = 0 ∨ r = 1) ∧ (r ≠ 0 ↔ ∀ i, i < z → mI M T (p + i) = mI M T (q + i))) := by
  obtain ⟨h1, ⟨p0, p3, p4, p5⟩, ⟨kT, nT⟩, -, -, h6, h7, h8, -⟩ := id h
  refine k_Wo_same hO (i32s (by omega) (by omega)) (i32s (by omega) (by omega)) (i32s (by omega) (by omega)) ?_
  suffices H : ∀ (t i : Nat), z ≤ i + t → i ≤ z → (∀ j, j < i → mI M T (p + j) = mI M T (q + j)) → h_Wo_same_3 G d w p q z i M (fun r M' => M' = M ∧ (r = 0 ∨ r = 1) ∧ (r ≠ 0 ↔ ∀ i, i < z → mI M T (p + i) = mI M T (q + i))) from H z 0 (by omega) (by omega) (fun j hj => by omega)
  intro t
  induction t with
  | zero =>
    intro i hi hiz hj
    exact k_Wo_same_3 hO (i32s (by omega) (by omega)) (i32s (by omega) (by omega)) (i32s (by omega) (by omega)) (i32s (by omega) (by omega)) ⟨fun _ => ⟨rfl, Or.inr rfl, fun _ j jz => hj j (by omega), fun _ => by decide⟩, fun y => absurd (by omega) y⟩
  | succ t ih =>
    intro i hi hiz hj
    refine k_Wo_same_3 hO (i32s (by omega) (by omega)) (i32s (by omega) (by omega)) (i32s (by omega) (by omega)) (i32s (by omega) (by omega)) ⟨fun y => ⟨rfl, Or.inr rfl, fun _ j jz => hj j (by omega), fun _ => by decide⟩, fun y => ?_⟩
    rw [p0]
    have e1 : ((p : Int) + i).toNat = p + i := by omega
    have e2 : ((q : Int) + i).toNat = q + i := by omega
    rw [e1, e2]
    refine ⟨h1, kT, by omega, by omega, fun e => ih (i + 1) (by omega) (by omega) (fun j hj2 => ?_), fun e => ⟨rfl, Or.inl rfl, fun q => absurd rfl q, fun q => absurd (q i (by omega)) e⟩⟩
    by_cases y2 : j = i
    · rw [y2]; exact e
    · exact hj j (by omega)

theorem x_RR_find {v : Nat} (h : RB M z r w T A B D N C n p O P K) (nk : NK M r A n V F ns c) (hv : v < n) (h2 : mI M A v = 2) : Ci G y_RR_find (d + 1) [vr r, vi v] M (fun x M' => M' = M ∧ ((x = -1 ∧ nmn M r T B D c v) ∨ ∃ i : Nat, x = i ∧ fm M r T B D c v i)) := by
  obtain ⟨-, ⟨k0, ⟨-, -, -, -, -, q15, -⟩, ⟨-, -, -, -, -, kk6, -⟩, ⟨-, -, -, -, -, nn6, -⟩⟩, ⟨r0, -⟩, hW, -⟩ := id h
  obtain ⟨hWA, e2, hnN, hw, hA, hB⟩ := id hW
  obtain ⟨w1, ⟨p0, p3, p4, p5⟩, -, ⟨k3, k4, k5⟩, ⟨c3, c4, c5⟩, w6, w7, w8, -⟩ := id hWA
  obtain ⟨n1, n2, n3⟩ := nk
  obtain ⟨-, ⟨sv0, -⟩, am, -⟩ := hw v hv
  have am2 := am h2
  have dv := (h.1 D v).1
  refine k_RR_find h.1 (i32s (by omega) (by omega)) ?_
  rw [r0, p5, c5, Int.toNat_natCast]
  refine ⟨k0, w1, k5, by omega, ?_⟩
  suffices HH : ∀ (t i : Nat), c ≤ i + t → i ≤ c → Hid (∀ j, j < i → ¬ swq M T B D v (mI M (r + 6) j).toNat) → h_RR_find_12 G d r v (mI M D v) i M (fun x M' => M' = M ∧ ((x = -1 ∧ nmn M r T B D c v) ∨ ∃ i : Nat, x = i ∧ fm M r T B D c v i)) from HH c 0 (by omega) (by omega) (fun j hj => by omega)
  intro t
  induction t with
  | zero =>
    intro i hi hc hj
    exact k_RR_find_12 h.1 (i32s (by omega) (by omega)) dv (i32s (by omega) (by omega)) ⟨k0, fun _ => ⟨rfl, Or.inl ⟨rfl, fun j jc => (show ∀ j, _ from hj) j (by omega)⟩⟩, fun y => absurd y (by omega)⟩
  | succ t ih =>
    intro i hi hc hj
    refine k_RR_find_12 h.1 (i32s (by omega) (by omega)) dv (i32s (by omega) (by omega)) ⟨k0, fun _ => ⟨rfl, Or.inl ⟨rfl, fun j jc => (show ∀ j, _ from hj) j (by omega)⟩⟩, fun y => ?_⟩
    have hic : i < c := by omega
    obtain ⟨⟨u, eu, un, u2⟩, -⟩ := n3 i hic
    obtain ⟨-, ⟨su0, -⟩, amu, -⟩ := hw u un
    have amu2 := amu u2
    rw [q15, nn6, r0, p5, c5, p4, c4, Int.toNat_natCast, eu, Int.toNat_natCast, Int.toNat_natCast]
    have nxt : ¬ swq M T B D v u → Hid (∀ j, j < i + 1 → ¬ swq M T B D v (mI M (r + 6) j).toNat) := fun q j ji => by
      by_cases y2 : j = i
      · rw [y2, eu, Int.toNat_natCast]; exact q
      · exact (show ∀ j, _ from hj) j (by omega)
    refine ⟨kk6, by omega, w1, k5, by omega, fun e => ⟨k4, by omega, by omega, ?_⟩, fun e => ih (i + 1) (by omega) (by omega) (nxt (fun q => e q.1))⟩
    obtain ⟨su, esu⟩ : ∃ x : Nat, mI M B u = x := ⟨(mI M B u).toNat, by omega⟩
    obtain ⟨sv, esv⟩ : ∃ x : Nat, mI M B v = x := ⟨(mI M B v).toNat, by omega⟩
    obtain ⟨sz, esz⟩ : ∃ x : Nat, mI M D v = x := ⟨(mI M D v).toNat, by omega⟩
    rw [esu, esv, esz]
    refine (x_Wo_same h.1 hWA (by omega) (by omega)).mono (fun x M' q => ?_)
    obtain ⟨e', hx, hx2⟩ := q
    have key : x ≠ 0 ↔ swq M T B D v u := by
      rw [hx2]
      unfold swq
      rw [esu, esv, esz, Int.toNat_natCast, Int.toNat_natCast]
      refine ⟨fun q => ⟨by rw [← esz]; exact e, fun i hi => q i (by omega)⟩, fun q i hi => q.2 i (by omega)⟩
    clear hx2
    rw [e']
    rw [← esz]
    exact ⟨i32s (by omega) (by omega), h.1, fun q => ih (i + 1) (by omega) (by omega) (nxt (fun q2 => (key.mpr q2) q)), fun q => ⟨rfl, Or.inr ⟨i, rfl, hic, by rw [eu, Int.toNat_natCast]; exact key.mp q, hj⟩⟩⟩

end RX6
