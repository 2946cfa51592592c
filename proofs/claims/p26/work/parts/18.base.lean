/-! numbers -/
theorem in_mk {x c : Int32} {n : Nat} (h1 : ¬ x < 0) (h2 : ¬ c ≤ x) (hc : c = nI n) (hn : n < 2 ^ 31) : vp_in x n := by
  subst hc
  rw [vp_in_iff]
  rw [Int32.lt_iff_toInt_lt, Int32.toInt_zero] at h1
  rw [Int32.le_iff_toInt_le, nI_toInt hn] at h2
  omega
theorem in_mkl {x c : Int32} {n : Nat} (h1 : ¬ x < 0) (h2 : ¬ c < x) (hc : c = nI n) (hn : n < 2 ^ 31) : vp_in x (n + 1) := by
  subst hc
  rw [vp_in_iff]
  rw [Int32.lt_iff_toInt_lt, Int32.toInt_zero] at h1
  rw [Int32.lt_iff_toInt_lt, nI_toInt hn] at h2
  omega
theorem in_no1 {x : Int32} {n : Nat} (h : x < 0) : ¬ vp_in x n := fun q => q (Or.inl h)
theorem in_no2 {x c : Int32} {n : Nat} (h : c ≤ x) (hc : c = nI n) (hn : n < 2 ^ 31) : ¬ vp_in x n := by
  subst hc
  rw [vp_in_iff]
  rw [Int32.le_iff_toInt_le, nI_toInt hn] at h
  omega
theorem in_no3 {x c : Int32} {n : Nat} (h : c < x) (hc : c = nI n) (hn : n < 2 ^ 31) : ¬ vp_in x (n + 1) := by
  subst hc
  rw [vp_in_iff]
  rw [Int32.lt_iff_toInt_lt, nI_toInt hn] at h
  omega
theorem lc_lt {a b : Int64} : lg_cmp a b < 0 ↔ a < b := by
  unfold lg_cmp
  by_cases h1 : b < a
  · rw [if_pos h1]
    constructor
    · intro h; exact absurd h (by decide)
    · intro h
      rw [Int64.lt_iff_toInt_lt] at h h1
      omega
  · rw [if_neg h1]
    by_cases h2 : a = b
    · simp [h2]
    · simp only [h2, if_false]
      constructor
      · intro _
        rw [Int64.lt_iff_toInt_lt] at h1 ⊢
        have : a.toInt ≠ b.toInt := fun q => h2 (Int64.toInt_inj.mp q)
        omega
      · intro _; decide
theorem lc_gt {a b : Int64} : 0 < lg_cmp a b ↔ b < a := by
  unfold lg_cmp
  by_cases h1 : b < a
  · simp [h1]
  · rw [if_neg h1]
    by_cases h2 : a = b
    · simp [h2]
    · simp [h1, h2]
theorem inL {x : Int32} {c e : Int64} {n : Nat} (hc : c.toInt = 0) (he : e.toInt = (n : Int) - 1) : (c ≤ x.toInt64 ∧ x.toInt64 ≤ e) ↔ vp_in x n := by
  rw [vp_in_iff, Int64.le_iff_toInt_le, Int64.le_iff_toInt_le, Int32.toInt_toInt64, hc, he]
  omega
/-! the small tests -/
theorem t91 {ω : Om} {t : Int32} {Q : Int32 → Om → Prop} (h1 : vp_in t 6 → Q 1 ω) (h0 : ¬ vp_in t 6 → Q 0 ω) : me_CtI 91 [.int t] ω Q :=
  vc_91 ω t ⟨fun c => ⟨Or.inl rfl, _, rfl, h0 (in_no1 c)⟩, fun c => ⟨fun c2 => ⟨Or.inl rfl, _, rfl, h0 (in_no2 c2 rfl (by decide))⟩, fun c2 => ⟨Or.inr rfl, _, rfl, h1 (in_mk c c2 rfl (by decide))⟩⟩⟩
theorem t92 {ω : Om} {t : Int32} {Q : Int32 → Om → Prop} (h1 : vp_in t 4 → Q 1 ω) (h0 : ¬ vp_in t 4 → Q 0 ω) : me_CtI 92 [.int t] ω Q :=
  vc_92 ω t ⟨fun c => ⟨Or.inl rfl, _, rfl, h0 (in_no1 c)⟩, fun c => ⟨fun c2 => ⟨Or.inl rfl, _, rfl, h0 (in_no2 c2 rfl (by decide))⟩, fun c2 => ⟨Or.inr rfl, _, rfl, h1 (in_mk c c2 rfl (by decide))⟩⟩⟩
theorem t93 {ω : Om} {t : Int32} {Q : Int32 → Om → Prop} (h1 : vp_in t 100 → Q 1 ω) (h0 : ¬ vp_in t 100 → Q 0 ω) : me_CtI 93 [.int t] ω Q :=
  vc_93 ω t ⟨fun c => ⟨Or.inl rfl, _, rfl, h0 (in_no1 c)⟩, fun c => ⟨fun c2 => ⟨Or.inl rfl, _, rfl, h0 (in_no3 c2 rfl (by decide))⟩, fun c2 => ⟨Or.inr rfl, _, rfl, h1 (in_mkl c c2 rfl (by decide))⟩⟩⟩
theorem t18 {ω : Om} {t : Int32} {Q : Int32 → Om → Prop} (h1 : vp_in t 5 → Q 1 ω) (h0 : ¬ vp_in t 5 → Q 0 ω) : me_CtI 18 [.int t] ω Q :=
  vc_18 ω t ⟨fun c => ⟨Or.inl rfl, _, rfl, h0 (in_no1 c)⟩, fun c => ⟨fun c2 => ⟨Or.inl rfl, _, rfl, h0 (in_no3 c2 rfl (by decide))⟩, fun c2 => ⟨Or.inr rfl, _, rfl, h1 (in_mkl c c2 rfl (by decide))⟩⟩⟩
/-- .. of the reference -/
theorem t123 {ω : Om} {v lo hi : Int64} {Q : Int32 → Om → Prop} (h1 : (lo ≤ v ∧ v ≤ hi) → Q 1 ω) (h0 : ¬ (lo ≤ v ∧ v ≤ hi) → Q 0 ω) : me_CtI 123 [.long v, .long lo, .long hi] ω Q := by
  refine vc_123 ω v lo hi ⟨fun c => ⟨Or.inl rfl, _, rfl, h0 ?_⟩, fun c => ⟨fun c2 => ⟨Or.inl rfl, _, rfl, h0 ?_⟩, fun c2 => ⟨Or.inr rfl, _, rfl, h1 ?_⟩⟩⟩
  · rw [lc_lt, Int64.lt_iff_toInt_lt] at c
    rw [Int64.le_iff_toInt_le]
    omega
  · rw [lc_gt, Int64.lt_iff_toInt_lt] at c2
    rw [Int64.le_iff_toInt_le, Int64.le_iff_toInt_le]
    omega
  · rw [lc_lt, Int64.lt_iff_toInt_lt] at c
    rw [lc_gt, Int64.lt_iff_toInt_lt] at c2
    rw [Int64.le_iff_toInt_le, Int64.le_iff_toInt_le]
    omega
theorem t123n (n : Nat) {ω : Om} {x : Int32} {lo hi : Int64} {Q : Int32 → Om → Prop} (hlo : lo.toInt = 0) (hhi : hi.toInt = (n : Int) - 1) (h1 : vp_in x n → Q 1 ω) (h0 : ¬ vp_in x n → Q 0 ω) : me_CtI 123 [.long x.toInt64, .long lo, .long hi] ω Q :=
  t123 (fun h => h1 ((inL hlo hhi).mp h)) (fun h => h0 (fun q => h ((inL hlo hhi).mpr q)))
