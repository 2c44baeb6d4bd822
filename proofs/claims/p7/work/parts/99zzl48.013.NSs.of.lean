theorem WKs.of {G : mG} (h : LT G) : WKs G := fun d a f e M hO hw h1 h2 h3 h4 => (s_MM_wordKind h.1 h.2.2 hO hw ⟨by omega, h1, h3⟩ h2).mono (fun _ _ q => ⟨q.1, q.2.1⟩)
theorem NSs.of {G : mG} (h : LT G) : NSs G := fun d w T A B D N C p n M hO hw h1 h2 h3 => (s_Wo_nameSort h.1 h.2.1 hO hw h1 h3).mono (fun _ _ q => ⟨q.1, q.2.1⟩)

