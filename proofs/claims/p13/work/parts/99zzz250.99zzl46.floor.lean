/-! Math.floorMod. -/
theorem s_JM_floorMod {G : mG} : FMs G := fun d M x y _ hx h hy => (s_JM_floorMod0 d M x y hx h hy).mono (fun _ _ q => ⟨q.1, q.2.1⟩)
