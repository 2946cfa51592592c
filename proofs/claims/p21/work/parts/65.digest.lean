/-! DIGEST comes to its end -/
theorem PrL.q {y : Nat} {a : List Value} {z : Nat} {b : List Value} {ω : Om} (h : PrL y a z b ω) : PqL y a z b ω := fun Q hQ => h Q (fun v ω' h' => hQ v v ω' h')
theorem u77 {ω : Om} (hR : R ω) {p : Int32} (hpp : p = 0 ∨ p = 1) {Q : Int64 → Om → Prop} (q : ∀ v ω', R ω' → ω'.1 1 1 = ω.1 1 1 → Q v ω') : me_CtJ 77 [.ref 0, .int p] ω Q := by
  obtain ⟨N, nb, H, W, hp, hc, hM, hH, hW, hWn, e1, e2, e3, e4, hx, hxm, hs, hY⟩ := hR.hs
  exact t77 hR hp hc hH hW e1 e3 hx hs hY hpp (fun ω1 hR1 hF1 => q _ ω1 hR1 (by rw [hF1.1 1 rfl]))
theorem u83 {ω : Om} (hR : R ω) {Q : Int32 → Om → Prop} (q : ∀ v ω', R ω' → ω'.1 1 1 = ω.1 1 1 → Q v ω') : me_CtI 83 [.ref 0, .int (50 : Int32)] ω Q := by
  obtain ⟨N, nb, H, W, hp, hc, hM, hH, hW, hWn, e1, e2, e3, e4, hx, hxm, hs, hY⟩ := hR.hs
  exact t83 hR hp hc hx hs hY (by decide) (by decide) (fun p ω1 hR1 hF1 _ => q _ ω1 hR1 (by rw [hF1.1 1 rfl]))
theorem u100 {ω : Om} {a b : Int64} {Q : Int64 → Om → Prop} (q : ∀ v, Q v ω) : me_CtJ 100 [.long a, .long b] ω Q := vc_100 ω a b ⟨_, rfl, q _⟩
theorem s_90 {ω : Om} (hR : R ω) {Q : Int64 → Om → Prop} (q : ∀ v ω', R ω' → Q v ω') : me_CtJ 90 [.ref 0] ω Q := by
  have k115 : ∀ (a3 : Int32) (a1 : Int64) (ω' : Om), R ω' → me_W 90 115 [some (.ref 0), some (.long a1), none, some (.int a3)] [] ω' (fun r ω' => ∃ v : Int64, r = some (.long v) ∧ Q v ω') :=
    up_ind (B := (8 : Int32)) (M := fun a3 => ∀ (a1 : Int64) (ω' : Om), R ω' → me_W 90 115 [some (.ref 0), some (.long a1), none, some (.int a3)] [] ω' (fun r ω' => ∃ v : Int64, r = some (.long v) ∧ Q v ω')) (fun a3 ih a1 ω' h => vl_90_115 ω' a1 a3 ⟨fun _ => ⟨_, rfl, q _ _ h⟩, fun c => s_89 (Sc.o ω') (fun v ω1 h1 => u100 (fun v2 => ih c v2 ω1 (h.sc h1)))⟩)
  have k82 : ∀ (a3 : Int32) (a1 : Int64) (ω' : Om), R ω' → ω'.1 1 1 = ω.1 1 1 → me_W 90 82 [some (.ref 0), some (.long a1), none, some (.int a3)] [] ω' (fun r ω' => ∃ v : Int64, r = some (.long v) ∧ Q v ω') :=
    up_ind (B := ω.1 1 1) (M := fun a3 => ∀ (a1 : Int64) (ω' : Om), R ω' → ω'.1 1 1 = ω.1 1 1 → me_W 90 82 [some (.ref 0), some (.long a1), none, some (.int a3)] [] ω' (fun r ω' => ∃ v : Int64, r = some (.long v) ∧ Q v ω')) (fun a3 ih a1 ω' h he => vl_90_82 ω' a1 a3 ⟨fun _ => k115 _ a1 ω' h, fun c => s_44 (Sc.o ω') (fun v ω1 h1 => u100 (fun v2 => ih (by rw [he] at c; exact c) v2 ω1 (h.sc h1) ((h1.1 1 1 rfl).trans he)))⟩)
  refine vc_90 ω (s_107 (Sc.o ω) (fun v1 ω1 h1 => ?_))
  have R1 := hR.sc h1
  have E1 : ω1.1 1 1 = ω.1 1 1 := h1.1 1 1 rfl
  refine u77 R1 (Or.inl rfl) (fun v2 ω2 R2 E2 => u100 (fun v3 => u77 R2 (Or.inr rfl) (fun v4 ω4 R4 E4 => u100 (fun v5 => s_79 (Sc.o ω4) (fun v6 ω6 h6 => u100 (fun v7 => ?_))))))
  have R6 := R4.sc h6
  have E6 : ω6.1 1 1 = ω.1 1 1 := (h6.1 1 1 rfl).trans (E4.trans (E2.trans E1))
  refine ⟨fun _ => u83 R6 (fun v8 ω8 R8 E8 => u100 (fun v9 => k82 _ v9 ω8 R8 (E8.trans E6))), fun _ => ?_⟩
  refine s_81 (Sc.o ω6) (fun v10 ω10 h10 => u100 (fun v11 => s_81 (Sc.o ω10) (fun v12 ω12 h12 => u100 (fun v13 => ?_))))
  have R12 := (R6.sc h10).sc h12
  have E12 : ω12.1 1 1 = ω.1 1 1 := (h12.1 1 1 rfl).trans ((h10.1 1 1 rfl).trans E6)
  exact u83 R12 (fun v14 ω14 R14 E14 => u100 (fun v15 => k82 _ v15 ω14 R14 (E14.trans E12)))
theorem q_90 {ω : Om} (hR : R ω) : PqL 90 [.ref 0] 183 [.ref 29] ω := fun _ hQ => s_90 hR (fun _ ω1 h1 => m_183 h1.mi (Sc.o ω1) (fun _ _ h2 => hQ _ _ _ (h1.sc h2)))
