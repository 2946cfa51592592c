/-! CALLS THAT ANSWER ALIKE: the easy ones -/
theorem q_65 {ω : Om} (hR : R ω) : Pr 65 [.ref 0] 125 [.ref 29] ω := by
  intro Q hQ
  obtain ⟨N, nb, ⟨L, hL, e1, e2, h1⟩, h2, h3, h4, h5, h6⟩ := hR
  refine vc_65 ω ⟨_, rfl, vc_125 _ ⟨_, rfl, ?_⟩⟩
  have hr : R (ui (ui ω 1 1 0) 29 1 0) := ⟨N, nb, ⟨0, by omega, rfl, rfl, fun k hk => absurd hk (by omega)⟩, h2, h3, h4, h5, h6⟩
  have := hQ (ω.1 1 1) _ hr
  show Q (ω.1 1 1) (ω.1 29 1) _
  rw [e2, ← e1]
  exact this
theorem q_76 {ω : Om} (hR : R ω) : Pr 76 [.ref 0] 149 [.ref 29] ω := by
  intro Q hQ
  obtain ⟨N, nb, h1, h2, h3, h4, ⟨g1, g2, H, W, g3⟩, h6⟩ := hR
  refine vc_76 ω ⟨_, rfl, vc_149 _ ⟨_, rfl, ?_⟩⟩
  have hr : R (ui (ui (ui (ui ω 16 0 0) 16 1 0) 29 16 0) 29 17 0) := ⟨N, nb, h1, h2, h3, h4, ⟨g1, g2, 0, 0, by omega, rfl, rfl, Nat.pow_pos (by decide), Nat.zero_and _, rfl, rfl⟩, h6⟩
  have := hQ (ω.1 16 3) _ hr
  show Q (ω.1 16 3) (ω.1 29 19) _
  rw [← g2]
  exact this
theorem q_69 {ω : Om} (hR : R ω) (a b : Int32) : Pr 69 [.ref 0, .int a, .int b] 134 [.ref 29, .int a, .int b] ω := by
  intro Q hQ
  obtain ⟨N, nb, h1, ⟨g1, g2⟩, h3⟩ := id hR
  by_cases c : vp_in a 6
  · by_cases d : vp_in b 4
    · refine vc_69 ω a b (t91 (fun _ => br_f (by decide) (t92 (fun _ => br_f (by decide) (t2 (fun i j hi hj e1 e2 => ⟨_, rfl, vc_134 ω a b (t123n 6 (by decide) (by decide) (fun _ => br_f (by decide) (t123n 4 (by decide) (by decide) (fun _ => br_f (by decide) ⟨in_4b c d, _, rfl, ?_⟩) (fun q => absurd d q))) (fun q => absurd c q))⟩) (fun q => absurd ⟨c, d⟩ q))) (fun q => absurd d q))) (fun q => absurd c q))
      rw [e1, e2, ix4', nI_clamp (by omega), ← g2 _ (by omega), Nat.mul_comm]
      exact hQ _ _ hR
    · exact vc_69 ω a b (t91 (fun _ => br_f (by decide) (t92 (fun q => absurd q d) (fun _ => br_t rfl ⟨_, rfl, vc_134 ω a b (t123n 6 (by decide) (by decide) (fun _ => br_f (by decide) (t123n 4 (by decide) (by decide) (fun q => absurd q d) (fun _ => br_t rfl ⟨_, rfl, hQ _ _ hR⟩))) (fun q => absurd c q))⟩))) (fun q => absurd c q))
  · exact vc_69 ω a b (t91 (fun q => absurd q c) (fun _ => br_t rfl ⟨_, rfl, vc_134 ω a b (t123n 6 (by decide) (by decide) (fun q => absurd q c) (fun _ => br_t rfl ⟨_, rfl, hQ _ _ hR⟩))⟩))
theorem t20 {ω : Om} {N : Nat} (hN : N ≤ 7) (e : ω.1 11 4 = nI N) {p : Int32} {Q : Int32 → Om → Prop} (h1 : vp_in p N → Q 1 ω) (h0 : ¬ vp_in p N → Q 0 ω) : me_CtI 20 [.ref 11, .int p] ω Q :=
  vc_20 ω p ⟨fun c => ⟨Or.inl rfl, _, rfl, h0 (in_no1 c)⟩, fun c => ⟨fun c2 => ⟨Or.inl rfl, _, rfl, h0 (in_no2 c2 e (by omega))⟩, fun c2 => ⟨Or.inr rfl, _, rfl, h1 (in_mk c c2 e (by omega))⟩⟩⟩
theorem t21 {ω : Om} {s : Nat} (hs : s < 7) {Q : Int32 → Om → Prop} (h : Q (ω.1 12 s) ω) : me_CtI 21 [.ref 11, .int (nI s)] ω Q := by
  refine vc_21 ω (nI s) (br_f (nI_pos (by omega)) (br_f (nI_ge (b := 7) hs (by decide)) ⟨vp_in_nI hs (by decide), _, rfl, ?_⟩))
  rw [nI_clamp (by omega)]
  exact h
theorem t25 {ω : Om} {s t : Nat} (hs : s < 7) (ht : t < 4) {v : Int32} {Q : Om → Prop} (h : Q (ui ω 14 (s * 4 + t) v)) : me_CtV 25 [.ref 11, .int (nI s), .int (nI t), .int v] ω Q := by
  refine vc_25 ω (nI s) (nI t) v (br_f (nI_pos (by omega)) (br_f (nI_ge (b := 7) hs (by decide)) (br_f (nI_pos (by omega)) (br_f (nI_ge (b := 4) ht (by decide)) ?_))))
  rw [ix4, nI_clamp (by omega)]
  exact ⟨vp_in_nI (by omega) (by decide), rfl, h⟩
theorem t27 {ω : Om} {t : Nat} (ht : t < 4) {v : Int32} {Q : Om → Prop} (h : Q (ui ω 15 t v)) : me_CtV 27 [.ref 11, .int (nI t), .int v] ω Q := by
  refine vc_27 ω (nI t) v (t92 (fun c => br_f (by decide) ⟨c, rfl, ?_⟩) (fun c => absurd (vp_in_nI ht (by decide)) c))
  rw [nI_clamp (by omega)]
  exact h
theorem q_72 {ω : Om} (hR : R ω) (a b : Int32) : Pr 72 [.ref 0, .int a, .int b] 138 [.ref 29, .int a, .int b] ω := by
  intro Q hQ
  obtain ⟨N, nb, h1, h2, h3, ⟨g1, g2, g3, g4, g5, g6, g7, g8, g9, g10, g11⟩, h5, h6⟩ := id hR
  by_cases c : vp_in a 4
  · by_cases d : vp_in b 100
    · obtain ⟨t, ht, rfl⟩ := vp_in_of c (by decide)
      refine vc_72 ω (nI t) b (t92 (fun _ => br_f (by decide) (t93 (fun _ => br_f (by decide) (t26 (fun t' ht' e => t27 ht ⟨Or.inl rfl, _, rfl, vc_138 _ (nI t) b (t123n 4 (by decide) (by decide) (fun _ => br_f (by decide) (t123n 100 (by decide) (by decide) (fun _ => br_f (by decide) ⟨c, c, _, rfl, ?_⟩) (fun q => absurd d q))) (fun q => absurd c q))⟩) (fun q => absurd c q))) (fun q => absurd d q))) (fun q => absurd c q))
      obtain rfl : t = t' := (nI_eq (by omega) (by omega)).mp e
      rw [nI_clamp (by omega)]
      have hr : R (ui (ui (ui ω 15 t b) 0 11 0) 38 t b) := ⟨N, nb, h1, h2, h3, ⟨g1, g2, g3, g4, g5, g6, g7, g8, g9, g10, upd_ext g11⟩, h5, h6⟩
      have := hQ (ω.1 15 t) _ hr
      show Q (ω.1 15 t) (ω.1 38 t) _
      rw [← g11 t ht]
      exact this
    · exact vc_72 ω a b (t92 (fun _ => br_f (by decide) (t93 (fun q => absurd q d) (fun _ => br_t rfl ⟨_, rfl, vc_138 ω a b (t123n 4 (by decide) (by decide) (fun _ => br_f (by decide) (t123n 100 (by decide) (by decide) (fun q => absurd q d) (fun _ => br_t rfl ⟨_, rfl, hQ _ _ hR⟩))) (fun q => absurd c q))⟩))) (fun q => absurd c q))
  · exact vc_72 ω a b (t92 (fun q => absurd q c) (fun _ => br_t rfl ⟨_, rfl, vc_138 ω a b (t123n 4 (by decide) (by decide) (fun q => absurd q c) (fun _ => br_t rfl ⟨_, rfl, hQ _ _ hR⟩))⟩))
theorem t137 {ω : Om} {N s t : Nat} (hN : N ≤ 7) (e : ω.1 29 15 = nI N) (hs : s < N) (ht : t < 4) {v : Int32} (hv : vp_in v 100) {Q : Int32 → Om → Prop} (h : Q (ω.1 37 (s * 4 + t)) (ui ω 37 (s * 4 + t) v)) : me_CtI 137 [.ref 29, .int (nI s), .int (nI t), .int v] ω Q := by
  have c : vp_in (nI s) N := vp_in_nI hs (by omega)
  have d : vp_in (nI t) 4 := vp_in_nI ht (by decide)
  have hi : vp_in ((4 : Int32) * nI s + nI t) 28 := in_4s (in_w c hN) d
  refine vc_137 ω (nI s) (nI t) v (t135 hN e (fun _ => br_f (by decide) (t123n 4 (by decide) (by decide) (fun _ => br_f (by decide) (t123n 100 (by decide) (by decide) (fun _ => br_f (by decide) ⟨hi, hi, _, rfl, ?_⟩) (fun q => absurd hv q))) (fun q => absurd d q))) (fun q => absurd c q))
  rw [ix4', nI_clamp (by omega), Nat.mul_comm 4 s]
  exact h
theorem q_71 {ω : Om} (hR : R ω) (a b v : Int32) : Pr 71 [.ref 0, .int a, .int b, .int v] 137 [.ref 29, .int a, .int b, .int v] ω := by
  intro Q hQ
  obtain ⟨N, nb, h1, h2, h3, ⟨g1, g2, g3, g4, g5, g6, g7, g8, g9, g10, g11⟩, h5, h6⟩ := id hR
  by_cases c : vp_in a N
  · by_cases d : vp_in b 4
    · by_cases e : vp_in v 100
      · obtain ⟨s, hs, rfl⟩ := vp_in_of c (by omega)
        obtain ⟨t, ht, rfl⟩ := vp_in_of d (by decide)
        have g3' : (ui (ui ω 14 (s * 4 + t) v) 0 11 0).1 29 15 = nI N := g3
        refine vc_71 ω (nI s) (nI t) v (t20 g1 g2 (fun _ => br_f (by decide) (t92 (fun _ => br_f (by decide) (t93 (fun _ => br_f (by decide) (t24 (fun s' t' hs' ht' e1 e2 => t25 (by omega) ht ⟨Or.inl rfl, _, rfl, t137 g1 g3' hs ht e ?_⟩) (fun q => absurd ⟨in_w c g1, d⟩ q))) (fun q => absurd e q))) (fun q => absurd d q))) (fun q => absurd c q))
        obtain rfl : s = s' := (nI_eq (by omega) (by omega)).mp e1
        obtain rfl : t = t' := (nI_eq (by omega) (by omega)).mp e2
        have hr : R (ui (ui (ui ω 14 (s * 4 + t) v) 0 11 0) 37 (s * 4 + t) v) := by
          refine ⟨N, nb, h1, h2, h3, ⟨g1, g2, g3, g4, g5, g6, g7, g8, upd_ext g9, fun k hk hk2 => ?_, g11⟩, h5, h6⟩
          show upd (ω.1 37) (s * 4 + t) v k = 0
          unfold upd
          rw [if_neg (by omega)]
          exact g10 k hk hk2
        have := hQ (ω.1 14 (s * 4 + t)) _ hr
        show Q (ω.1 14 (s * 4 + t)) (ω.1 37 (s * 4 + t)) _
        rw [← g9 _ (by omega)]
        exact this
      · exact vc_71 ω a b v (t20 g1 g2 (fun _ => br_f (by decide) (t92 (fun _ => br_f (by decide) (t93 (fun q => absurd q e) (fun _ => br_t rfl ⟨_, rfl, vc_137 ω a b v (t135 g1 g3 (fun _ => br_f (by decide) (t123n 4 (by decide) (by decide) (fun _ => br_f (by decide) (t123n 100 (by decide) (by decide) (fun q => absurd q e) (fun _ => br_t rfl ⟨_, rfl, hQ _ _ hR⟩))) (fun q => absurd d q))) (fun q => absurd c q))⟩))) (fun q => absurd d q))) (fun q => absurd c q))
    · exact vc_71 ω a b v (t20 g1 g2 (fun _ => br_f (by decide) (t92 (fun q => absurd q d) (fun _ => br_t rfl ⟨_, rfl, vc_137 ω a b v (t135 g1 g3 (fun _ => br_f (by decide) (t123n 4 (by decide) (by decide) (fun q => absurd q d) (fun _ => br_t rfl ⟨_, rfl, hQ _ _ hR⟩))) (fun q => absurd c q))⟩))) (fun q => absurd c q))
  · exact vc_71 ω a b v (t20 g1 g2 (fun q => absurd q c) (fun _ => br_t rfl ⟨_, rfl, vc_137 ω a b v (t135 g1 g3 (fun q => absurd q c) (fun _ => br_t rfl ⟨_, rfl, hQ _ _ hR⟩))⟩))
/-- whether one is of a kind -/
def isK (k own : Int32) : Prop := k = 0 ∨ own = k ∨ (own = 4 ∧ k = 2)
theorem t23 {ω : Om} {s : Nat} (hs : s < 7) {k : Int32} {Q : Int32 → Om → Prop} (h1 : isK k (ω.1 12 s) → Q 1 ω) (h0 : ¬ isK k (ω.1 12 s) → Q 0 ω) : me_CtI 23 [.ref 11, .int (nI s), .int k] ω Q :=
  vc_23 ω (nI s) k (t21 hs ⟨fun c => ⟨Or.inr rfl, _, rfl, h1 (Or.inl c)⟩, fun c => ⟨fun c2 => ⟨Or.inr rfl, _, rfl, h1 (Or.inr (Or.inl c2))⟩, fun c2 => ⟨fun c3 => ⟨fun c4 => ⟨Or.inr rfl, _, rfl, h1 (Or.inr (Or.inr ⟨c3, c4⟩))⟩, fun c4 => ⟨Or.inl rfl, _, rfl, h0 (fun q => q.elim c (fun q => q.elim c2 (fun q => c4 q.2)))⟩⟩, fun c3 => ⟨Or.inl rfl, _, rfl, h0 (fun q => q.elim c (fun q => q.elim c2 (fun q => c3 q.1)))⟩⟩⟩⟩)
theorem t143 {ω : Om} {N s : Nat} (hN : N ≤ 7) (e : ω.1 29 15 = nI N) (hs : s < N) {k : Int32} (hk : vp_in k 5) {Q : Int32 → Om → Prop} (h1 : isK k (ω.1 35 s) → Q (nI s) ω) (h0 : ¬ isK k (ω.1 35 s) → Q (-1) ω) : me_CtI 143 [.ref 29, .int (nI s), .int k] ω Q := by
  have v : vp_in (nI s) 7 := vp_in_nI (by omega) (by decide)
  refine vc_143 ω (nI s) k (t135 hN e (fun _ => br_f (by decide) (t123n 5 (by decide) (by decide) (fun _ => br_f (by decide) ?_) (fun q => absurd hk q))) (fun q => absurd (vp_in_nI hs (by omega)) q))
  rw [nI_clamp (by omega)]
  exact ⟨fun c => br_f (by decide) ⟨_, rfl, h1 (Or.inl c)⟩, fun c => ⟨v, fun c2 => br_f (by decide) ⟨_, rfl, h1 (Or.inr (Or.inl c2.symm))⟩, fun c2 => ⟨fun c3 => ⟨v, fun c4 => br_f (by decide) ⟨_, rfl, h1 (Or.inr (Or.inr ⟨c4, c3⟩))⟩, fun c4 => br_t rfl ⟨_, rfl, h0 (fun q => q.elim c (fun q => q.elim (fun q => c2 q.symm) (fun q => c4 q.1)))⟩⟩, fun c3 => br_t rfl ⟨_, rfl, h0 (fun q => q.elim c (fun q => q.elim (fun q => c2 q.symm) (fun q => c3 q.2)))⟩⟩⟩⟩
theorem q_74 {ω : Om} (hR : R ω) (a b : Int32) : Pr 74 [.ref 0, .int a, .int b] 143 [.ref 29, .int a, .int b] ω := by
  intro Q hQ
  obtain ⟨N, nb, h1, h2, h3, ⟨g1, g2, g3, g4, g5, g6, g7, g8, g9, g10, g11⟩, h5, h6⟩ := id hR
  by_cases c : vp_in a N
  · by_cases d : vp_in b 5
    · obtain ⟨s, hs, rfl⟩ := vp_in_of c (by omega)
      have e := g7 s (by omega)
      exact vc_74 ω (nI s) b (t20 g1 g2 (fun _ => br_f (by decide) (t18 (fun _ => br_f (by decide) (t23 (by omega) (fun k => br_f (by decide) ⟨_, rfl, t143 g1 g3 hs d (fun _ => hQ _ _ hR) (fun q => absurd (e ▸ k) q)⟩) (fun k => br_t rfl ⟨_, rfl, t143 g1 g3 hs d (fun q => absurd (e ▸ q) k) (fun _ => hQ _ _ hR)⟩))) (fun q => absurd d q))) (fun q => absurd c q))
    · exact vc_74 ω a b (t20 g1 g2 (fun _ => br_f (by decide) (t18 (fun q => absurd q d) (fun _ => br_t rfl ⟨_, rfl, vc_143 ω a b (t135 g1 g3 (fun _ => br_f (by decide) (t123n 5 (by decide) (by decide) (fun q => absurd q d) (fun _ => br_t rfl ⟨_, rfl, hQ _ _ hR⟩))) (fun q => absurd c q))⟩))) (fun q => absurd c q))
  · exact vc_74 ω a b (t20 g1 g2 (fun q => absurd q c) (fun _ => br_t rfl ⟨_, rfl, vc_143 ω a b (t135 g1 g3 (fun q => absurd q c) (fun _ => br_t rfl ⟨_, rfl, hQ _ _ hR⟩))⟩))
