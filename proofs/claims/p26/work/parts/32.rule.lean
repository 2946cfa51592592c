/-! THE RULE'S TEXT: both readers do one step -/
abbrev RS : Type := Nat × Nat × (Nat → Nat) × Nat × Nat
def pc (a : Nat) : Nat := (a.testBit 0).toNat + (a.testBit 1).toNat + (a.testBit 2).toNat + (a.testBit 3).toNat + (a.testBit 4).toNat + (a.testBit 5).toNat + (a.testBit 6).toNat
set_option maxRecDepth 100000 in
theorem pc_s : ∀ a, a < 128 → ∀ x, x < 7 → a.testBit x = false → pc (a ||| 2 ^ x) = pc a + 1 := by decide
set_option maxRecDepth 100000 in
theorem pc_7 : ∀ a, a < 128 → ∀ x, x < 7 → a.testBit x = false → pc a < 7 := by decide
def stepR (N : Nat) (s : RS) (b : Nat) : Option RS := if s.1 = 0 then (if b = 43 then (if s.2.1 = 0 then none else some (1, s.2)) else if 48 ≤ b ∧ b - 48 < N ∧ s.2.2.2.2.testBit (b - 48) = false then some (0, s.2.1 + 1, updN s.2.2.1 s.2.1 (b - 48), s.2.2.2.1, s.2.2.2.2 ||| 2 ^ (b - 48)) else none) else if s.1 = 1 then (if 48 ≤ b ∧ b ≤ 57 then some (2, s.2.1, s.2.2.1, b - 48, s.2.2.2.2) else none) else none
def IR (N : Nat) (s : RS) : Prop := s.1 ≤ 2 ∧ s.2.1 ≤ 7 ∧ s.2.2.2.2 < 2 ^ N ∧ pc s.2.2.2.2 = s.2.1 ∧ ∀ x, s.2.2.2.2.testBit x = true ↔ ∃ k, k < s.2.1 ∧ s.2.2.1 k = x
theorem IR.st {N : Nat} {s s' : RS} {b : Nat} (hN : N ≤ 7) (h : IR N s) (e : stepR N s b = some s') : IR N s' := by
  have hp := pow7 hN
  obtain ⟨i1, i2, i3, i4, i5⟩ := id h
  unfold stepR at e
  by_cases c0 : s.1 = 0
  · rw [if_pos c0] at e
    by_cases c : b = 43
    · rw [if_pos c] at e
      by_cases m0 : s.2.1 = 0
      · rw [if_pos m0] at e; cases e
      · rw [if_neg m0] at e
        cases e
        exact ⟨by show 1 ≤ 2; omega, i2, i3, i4, i5⟩
    · rw [if_neg c] at e
      by_cases d : 48 ≤ b ∧ b - 48 < N ∧ s.2.2.2.2.testBit (b - 48) = false
      · rw [if_pos d] at e
        cases e
        have h7 := pc_7 _ (by omega) (b - 48) (by omega) d.2.2
        refine ⟨by show 0 ≤ 2; omega, by show s.2.1 + 1 ≤ 7; omega, ?_, ?_, fun x => ?_⟩
        · exact Nat.or_lt_two_pow i3 (Nat.pow_lt_pow_right (by decide) d.2.1)
        · show pc (s.2.2.2.2 ||| 2 ^ (b - 48)) = s.2.1 + 1
          rw [pc_s _ (by omega) _ (by omega) d.2.2, i4]
        · show (s.2.2.2.2 ||| 2 ^ (b - 48)).testBit x = true ↔ ∃ k, k < s.2.1 + 1 ∧ updN s.2.2.1 s.2.1 (b - 48) k = x
          rw [Nat.testBit_or, Nat.testBit_two_pow]
          unfold updN
          constructor
          · intro q
            by_cases z : b - 48 = x
            · exact ⟨s.2.1, by omega, by rw [if_pos rfl]; exact z⟩
            · simp [z] at q
              obtain ⟨k, hk, hf⟩ := (i5 x).mp q
              exact ⟨k, by omega, by rw [if_neg (by omega)]; exact hf⟩
          · intro ⟨k, hk, hf⟩
            by_cases z : k = s.2.1
            · rw [if_pos z] at hf
              simp [hf]
            · rw [if_neg z] at hf
              have := (i5 x).mpr ⟨k, by omega, hf⟩
              simp [this]
      · rw [if_neg d] at e; cases e
  · rw [if_neg c0] at e
    by_cases c1 : s.1 = 1
    · rw [if_pos c1] at e
      by_cases d : 48 ≤ b ∧ b ≤ 57
      · rw [if_pos d] at e
        cases e
        exact ⟨by show 2 ≤ 2; omega, i2, i3, i4, i5⟩
      · rw [if_neg d] at e; cases e
    · rw [if_neg c1] at e; cases e
/-- the class's reader holds a state -/
def CR (N : Nat) (ω : Om) (s : RS) : Prop := ω.1 5 1 = nI s.2.1 ∧ (s.1 = 2 → ω.1 5 2 = nI s.2.2.2.1) ∧ ω.1 5 3 = nI N ∧ ω.1 5 4 = nI s.2.2.2.2 ∧ ω.1 5 5 = nI s.1 ∧ ∀ k, k < s.2.1 → ω.1 6 k = nI (s.2.2.1 k)
theorem row_s {g : Nat → Int32} {f : Nat → Nat} {m x : Nat} (h : ∀ k, k < m → g k = nI (f k)) : ∀ k, k < m + 1 → upd g m (nI x) k = nI (updN f m x k) := by
  intro k hk
  unfold upd updN
  by_cases q : k = m
  · rw [if_pos q, if_pos q]
  · rw [if_neg q, if_neg q]; exact h k (by omega)
theorem t52 {N : Nat} {ω : Om} {s : RS} {b : Nat} (hN : N ≤ 7) (hb : b < 256) (hI : IR N s) (hC : CR N ω s) {Q : Int32 → Om → Prop} (h1 : ∀ s', stepR N s b = some s' → ∀ ω', Sc ω ω' → CR N ω' s' → Q 1 ω') (h0 : stepR N s b = none → Q 0 ω) : me_CtI 52 [.ref 5, .int (nI b)] ω Q := by
  have hp := pow7 hN
  obtain ⟨e1, e2, e3, e4, e5, e6⟩ := id hC
  obtain ⟨i1, i2, i3, i4, i5⟩ := id hI
  unfold stepR at h1 h0
  refine vc_52 ω (nI b) ?_
  rw [e5]
  by_cases c0 : s.1 = 0
  · rw [if_pos c0] at h1 h0
    refine br_t (by rw [c0]; rfl) (vc_54 ω (nI b) ?_)
    rw [e1]
    have z55 : ∀ {X : Int32 → Om → Prop}, (48 ≤ b ∧ b - 48 < N ∧ s.2.2.2.2.testBit (b - 48) = false → X 1 (ui (ui (ui ω 6 s.2.1 (nI (b - 48))) 5 1 (nI (s.2.1 + 1))) 5 4 (nI (s.2.2.2.2 ||| 2 ^ (b - 48))))) → (¬ (48 ≤ b ∧ b - 48 < N ∧ s.2.2.2.2.testBit (b - 48) = false) → X 0 ω) → me_CtI 55 [.ref 5, .int (nI b)] ω X := by
      intro X x1 x0
      refine vc_55 ω (nI b) ?_
      rw [e1, e3, e4, show (48 : Int32) = nI 48 from rfl]
      by_cases q1 : 48 ≤ b
      · rw [pk_sub q1, nI_clamp (by omega), nI_1]
        by_cases q2 : b - 48 < N
        · rw [bitI (by omega) (by omega), sh2 _ (by omega), or_nI (by omega) (Nat.lt_of_lt_of_le (Nat.pow_lt_pow_right (by decide) (by omega : b - 48 < 32)) (by decide))]
          refine br_f (nI_pos (by omega)) (br_f (nI_ge (by omega) (by omega)) ?_)
          cases q3 : s.2.2.2.2.testBit (b - 48)
          · have h7 := pc_7 _ (by omega) (b - 48) (by omega) q3
            exact br_f (nI_ge (b := 7) (by omega) (by decide)) (br_f (by decide) ⟨vp_in_nI (by omega) (by decide), Or.inr rfl, _, rfl, x1 ⟨q1, q2, q3⟩⟩)
          · exact ⟨fun _ => ⟨Or.inl rfl, _, rfl, x0 (fun z => by rw [q3] at z; cases z.2.2)⟩, fun _ => br_t rfl ⟨Or.inl rfl, _, rfl, x0 (fun z => by rw [q3] at z; cases z.2.2)⟩⟩
        · exact br_f (nI_pos (by omega)) (br_t (nI_le (by omega) (by omega)) ⟨Or.inl rfl, _, rfl, x0 (fun z => q2 z.2.1)⟩)
      · exact br_t ((sub_lt (c := 48) (m := 0) (by omega) (by decide) (by decide)).mpr (by omega)) ⟨Or.inl rfl, _, rfl, x0 (fun z => q1 z.1)⟩
    by_cases c : b = 43
    · rw [if_pos c] at h1 h0
      refine br_t (by rw [c]; rfl) ?_
      by_cases m0 : s.2.1 = 0
      · rw [if_pos m0] at h0
        exact br_t (by rw [m0]; rfl) ⟨Or.inl rfl, _, rfl, br_t rfl (z55 (fun q => absurd q.1 (by omega)) (fun _ => br_t rfl ⟨Or.inl rfl, _, rfl, h0 rfl⟩))⟩
      · rw [if_neg m0] at h1
        exact br_f (nI_ne0 (by omega) (by omega)) ⟨Or.inr rfl, _, rfl, br_f (by decide) ⟨Or.inr rfl, _, rfl, h1 _ rfl _ (Sc_ui rfl (Sc.o ω)) ⟨e1, fun q => absurd (show (1 : Nat) = 2 from q) (by decide), e3, e4, rfl, e6⟩⟩⟩
    · rw [if_neg c] at h1 h0
      refine br_f (fun q => c ((nI_eq (b := 43) (by omega) (by decide)).mp q)) ⟨Or.inl rfl, _, rfl, br_t rfl (z55 (fun q => br_f (by decide) ⟨Or.inr rfl, _, rfl, h1 _ (if_pos q) _ (Sc_ui rfl (Sc_ui rfl (Sc_ui rfl (Sc.o ω)))) ⟨rfl, fun q => absurd (show (0 : Nat) = 2 from q) (by decide), e3, rfl, e5.trans (by rw [c0]), row_s e6⟩⟩) (fun q => br_t rfl ⟨Or.inl rfl, _, rfl, h0 (if_neg q)⟩))⟩
  · rw [if_neg c0] at h1 h0
    refine br_f (fun q => c0 ((nI_eq (b := 0) (by omega) (by decide)).mp q)) ?_
    by_cases c1 : s.1 = 1
    · rw [if_pos c1] at h1 h0
      refine br_t (by rw [c1]; rfl) (vc_56 ω (nI b) ?_)
      rw [show (48 : Int32) = nI 48 from rfl]
      by_cases q1 : 48 ≤ b
      · rw [pk_sub q1]
        refine br_f (nI_pos (by omega)) ?_
        by_cases q2 : b ≤ 57
        · exact br_t (nI_le (b := 9) (by omega) (by decide)) ⟨Or.inr rfl, _, rfl, Or.inr rfl, _, rfl, h1 _ (if_pos ⟨q1, q2⟩) _ (Sc_ui rfl (Sc_ui rfl (Sc.o ω))) ⟨e1, fun _ => rfl, e3, e4, rfl, e6⟩⟩
        · exact br_f (nI_ge (a := 9) (by omega) (by omega)) ⟨Or.inl rfl, _, rfl, Or.inl rfl, _, rfl, h0 (if_neg (fun q => q2 q.2))⟩
      · exact br_t ((sub_lt (c := 48) (m := 0) (by omega) (by decide) (by decide)).mpr (by omega)) ⟨Or.inl rfl, _, rfl, Or.inl rfl, _, rfl, h0 (if_neg (fun q => q1 q.1))⟩
    · rw [if_neg c1] at h0
      exact br_f (fun q => c1 ((nI_eq (b := 1) (by omega) (by decide)).mp q)) ⟨Or.inl rfl, _, rfl, h0 rfl⟩
/-- the reference's reader holds a state -/
def MR (ω : Om) (s : RS) : Prop := ω.1 29 12 = nI s.2.1 ∧ (s.1 = 2 → ω.1 29 13 = nI s.2.2.2.1) ∧ ω.1 29 8 = nI s.1 ∧ ∀ k, k < s.2.1 → ω.1 34 k = nI (s.2.2.1 k)
theorem t129 {N : Nat} {ω : Om} {s : RS} {b : Nat} (hN : N ≤ 7) (eN : ω.1 29 15 = nI N) (hb : b < 256) (hI : IR N s) (hC : MR ω s) {P : Option Value → Om → Prop} (h1 : ∀ s', stepR N s b = some s' → ∀ ω', Sc ω ω' → MR ω' s' → P (some (.int 1)) ω') (h0 : stepR N s b = none → ∀ ω', Sc ω ω' → P (some (.int 0)) ω') : me_Ct 129 [.ref 29, .int (nI b)] ω P := by
  have hp := pow7 hN
  obtain ⟨e1, e2, e3, e6⟩ := id hC
  obtain ⟨i1, i2, i3, i4, i5⟩ := id hI
  unfold stepR at h1 h0
  refine vc_129 ω (nI b) ?_
  by_cases c0 : s.1 = 0
  · rw [if_pos c0] at h1 h0
    refine br_f (by rw [e3, c0]; decide) (br_f (by rw [e3, c0]; decide) ?_)
    by_cases c : b = 43
    · rw [if_pos c] at h1 h0
      refine br_t (by rw [c]; rfl) ?_
      rw [e1]
      by_cases m0 : s.2.1 = 0
      · rw [if_pos m0] at h0
        exact br_t (by rw [m0]; decide) ⟨Or.inl rfl, h0 rfl _ (Sc_ui rfl (Sc.o ω))⟩
      · rw [if_neg m0] at h1
        exact br_f (nI_nle (by omega) (by omega)) ⟨Or.inr rfl, h1 _ rfl _ (Sc_ui rfl (Sc.o ω)) ⟨e1, fun q => absurd (show (1 : Nat) = 2 from q) (by decide), rfl, e6⟩⟩
    · rw [if_neg c] at h1 h0
      refine br_f (fun q => c ((nI_eq (b := 43) (by omega) (by decide)).mp q)) ?_
      have kb : ∀ n j, j + n = s.2.1 → ¬ (48 ≤ b ∧ b - 48 < N ∧ s.2.2.2.2.testBit (b - 48) = false) → me_W 129 78 [some (.ref 29), some (.int (nI b)), some (.int 0), some (.int (nI j))] [] ω P := by
        intro n
        induction n with
        | zero =>
          intro j hj hg
          exact vl_129_78 ω _ _ _ (br_t (by rw [e1, show j = s.2.1 by omega]; exact Int32.le_refl _) (br_t rfl ⟨Or.inl rfl, h0 (if_neg hg) _ (Sc.o ω)⟩))
        | succ n ih =>
          intro j hj hg
          refine vl_129_78 ω _ _ _ (br_f (by rw [e1]; exact nI_ge (by omega) (by omega)) (br_t rfl ?_))
          rw [nI_1]
          exact ih (j + 1) (by omega) hg
      rw [show (48 : Int32) = nI 48 from rfl]
      by_cases q1 : 48 ≤ b ∧ b - 48 < N
      · have kg : ∀ n j, j + n = s.2.1 → (∀ k, k < j → s.2.2.1 k ≠ b - 48) → me_W 129 78 [some (.ref 29), some (.int (nI b)), some (.int 1), some (.int (nI j))] [] ω P := by
          intro n
          induction n with
          | zero =>
            intro j hj hg
            have q3 : s.2.2.2.2.testBit (b - 48) = false := by
              cases q : s.2.2.2.2.testBit (b - 48)
              · rfl
              · obtain ⟨k, hk, hf⟩ := (i5 _).mp q
                exact absurd hf (hg k (by omega))
            have h7 := pc_7 _ (by omega) (b - 48) (by omega) q3
            refine vl_129_78 ω _ _ _ (br_t (by rw [e1, show j = s.2.1 by omega]; exact Int32.le_refl _) (br_f (by decide) ?_))
            rw [e1, nI_clamp (by omega), show (48 : Int32) = nI 48 from rfl, pk_sub q1.1, nI_1]
            exact ⟨vp_in_nI (by omega) (by decide), Or.inr rfl, h1 _ (if_pos ⟨q1.1, q1.2, q3⟩) _ (Sc_ui rfl (Sc_ui rfl (Sc.o ω))) ⟨rfl, fun q => absurd (show (0 : Nat) = 2 from q) (by decide), e3.trans (by rw [c0]), row_s e6⟩⟩
          | succ n ih =>
            intro j hj hg
            refine vl_129_78 ω _ _ _ (br_f (by rw [e1]; exact nI_ge (by omega) (by omega)) (br_f (by decide) ⟨vp_in_nI (by omega) (by decide), ?_⟩))
            have hfj : s.2.2.1 j < N := bit_lt i3 ((i5 _).mpr ⟨j, by omega, rfl⟩)
            rw [nI_clamp (by omega), e6 j (by omega), show (48 : Int32) = nI 48 from rfl, pk_sub q1.1, nI_1]
            refine ⟨fun q => kb n (j + 1) (by omega) (fun z => ?_), fun q => ih (j + 1) (by omega) (fun k hk => ?_)⟩
            · have := (i5 (b - 48)).mpr ⟨j, by omega, (nI_eq (by omega) (by omega)).mp q⟩
              rw [this] at z
              cases z.2.2
            · by_cases r : k = j
              · rw [r]; exact fun z => q (by rw [z])
              · exact hg k (by omega)
        rw [pk_sub q1.1]
        exact t135 hN eN (fun _ => kg s.2.1 0 (by omega) (fun k hk => absurd hk (by omega))) (fun q => absurd (vp_in_nI q1.2 (by omega)) q)
      · refine t135 hN eN (fun q => absurd ?_ q1) (fun _ => kb s.2.1 0 (by omega) (fun z => q1 ⟨z.1, z.2.1⟩))
        have g1 : 48 ≤ b := by
          by_cases r : 48 ≤ b
          · exact r
          · exact absurd ((sub_lt (c := 48) (m := 0) (by omega) (by decide) (by decide)).mpr (by omega)) (nn_i q)
        rw [pk_sub g1, vp_in_iff, nI_toInt (by omega)] at q
        omega
  · rw [if_neg c0] at h1 h0
    by_cases c1 : s.1 = 1
    · rw [if_pos c1] at h1 h0
      refine br_t (by rw [e3, c1]; rfl) (t123b (l := 48) (u := 57) (by omega) (by decide) (by decide) (fun q => ⟨Or.inr rfl, h1 _ (if_pos q) _ (Sc_ui rfl (Sc_ui rfl (Sc.o ω))) ⟨e1, fun _ => ?_, rfl, e6⟩⟩) (fun q => ⟨Or.inl rfl, h0 (if_neg q) _ (Sc_ui rfl (Sc_ui rfl (Sc.o ω)))⟩))
      show nI b - nI 48 = nI (b - 48)
      rw [pk_sub q.1]
    · rw [if_neg c1] at h0
      exact br_f (by rw [e3]; exact fun q => c1 ((nI_eq (b := 1) (by omega) (by decide)).mp q)) (br_t (by rw [e3, show s.1 = 2 by omega]; rfl) ⟨Or.inl rfl, h0 rfl _ (Sc.o ω)⟩)
