/-! THE BELL'S TEXT: both readers do one step -/
theorem sub_lt {b c m : Nat} (hb : b < 2 ^ 30) (hc : c < 2 ^ 30) (hm : m < 2 ^ 30) : nI b - nI c < nI m ↔ b < c + m := by
  rw [Int32.lt_iff_toInt_lt, pk_sub_toInt hb hc, nI_toInt (by omega)]
  omega
theorem lt_sub {b c m : Nat} (hb : b < 2 ^ 30) (hc : c < 2 ^ 30) (hm : m < 2 ^ 30) : nI m < nI b - nI c ↔ c + m < b := by
  rw [Int32.lt_iff_toInt_lt, pk_sub_toInt hb hc, nI_toInt (by omega)]
  omega
theorem le_sub {b c m : Nat} (hb : b < 2 ^ 30) (hc : c < 2 ^ 30) (hm : m < 2 ^ 30) : nI m ≤ nI b - nI c ↔ c + m ≤ b := by
  rw [Int32.le_iff_toInt_le, pk_sub_toInt hb hc, nI_toInt (by omega)]
  omega
theorem sub_le {b c m : Nat} (hb : b < 2 ^ 30) (hc : c < 2 ^ 30) (hm : m < 2 ^ 30) : nI b - nI c ≤ nI m ↔ b ≤ c + m := by
  rw [Int32.le_iff_toInt_le, pk_sub_toInt hb hc, nI_toInt (by omega)]
  omega
theorem sub_le_sub {b c t e : Nat} (hb : b < 2 ^ 30) (hc : c < 2 ^ 30) (ht : t < 2 ^ 30) (he : e < 2 ^ 30) : nI b - nI c ≤ nI t - nI e ↔ b + e ≤ t + c := by
  rw [Int32.le_iff_toInt_le, pk_sub_toInt hb hc, pk_sub_toInt ht he]
  omega
theorem t123b {ω : Om} {b l u : Nat} (hb : b < 2 ^ 31) {lo hi : Int64} (hlo : lo.toInt = (l : Int)) (hhi : hi.toInt = (u : Int)) {Q : Int32 → Om → Prop} (h1 : l ≤ b ∧ b ≤ u → Q 1 ω) (h0 : ¬ (l ≤ b ∧ b ≤ u) → Q 0 ω) : me_CtI 123 [.long (nI b).toInt64, .long lo, .long hi] ω Q := by
  have e : (lo ≤ (nI b).toInt64 ∧ (nI b).toInt64 ≤ hi) ↔ (l ≤ b ∧ b ≤ u) := by
    rw [Int64.le_iff_toInt_le, Int64.le_iff_toInt_le, Int32.toInt_toInt64, hlo, hhi, nI_toInt hb]
    omega
  exact t123 (fun q => h1 (e.mp q)) (fun q => h0 (fun z => q (e.mpr z)))
abbrev BS : Type := Nat × Nat × Nat × (Nat → Nat) × Int32
def s4 (d : Nat → Nat) (h : Nat) : Nat := d (4 * h) + d (4 * h + 1) + d (4 * h + 2) + d (4 * h + 3)
def updN (d : Nat → Nat) (k v : Nat) : Nat → Nat := fun j => if j = k then v else d j
def slB (s : BS) (b : Nat) : Option BS := if b = 47 ∧ s.2.1 < 5 then some (0, s.2.1 + 1, 0, s.2.2.2.1, s.2.2.2.2) else none
def leB (s : BS) (b : Nat) : Option BS := if 97 ≤ b ∧ b ≤ 100 ∧ s.2.2.1 + 97 ≤ b then some (2, s.2.1, b - 96, s.2.2.2.1, s.2.2.2.2) else none
def diB (s : BS) (b : Nat) : Option BS := if 49 ≤ b ∧ b ≤ 57 ∧ s4 s.2.2.2.1 s.2.1 + (b - 48) ≤ 10 then some (3, s.2.1, s.2.2.1, updN s.2.2.2.1 (4 * s.2.1 + s.2.2.1 - 1) (b - 48), s.2.2.2.2 + 1) else none
def stepB (s : BS) (b : Nat) : Option BS := if s.1 = 0 then (if b = 45 then some (1, s.2) else leB s b) else if s.1 = 1 then slB s b else if s.1 = 2 then diB s b else (if b = 47 then slB s b else leB s b)
def IB (s : BS) : Prop := s.2.1 ≤ 5 ∧ s.2.2.1 ≤ 4 ∧ s.1 ≤ 3 ∧ (s.1 = 2 → 1 ≤ s.2.2.1) ∧ (∀ k, 4 * s.2.1 + (if s.1 = 2 then s.2.2.1 - 1 else s.2.2.1) ≤ k → s.2.2.2.1 k = 0) ∧ s4 s.2.2.2.1 s.2.1 ≤ 10
theorem s4_upd {d : Nat → Nat} {h t v : Nat} (ht : t < 4) (h0 : d (4 * h + t) = 0) : s4 (updN d (4 * h + t) v) h = s4 d h + v := by
  unfold s4 updN
  match t, ht with
  | 0, _ =>
    rw [if_pos (by omega), if_neg (by omega), if_neg (by omega), if_neg (by omega)]
    rw [Nat.add_zero] at h0
    omega
  | 1, _ =>
    rw [if_neg (by omega), if_pos (by omega), if_neg (by omega), if_neg (by omega)]
    omega
  | 2, _ =>
    rw [if_neg (by omega), if_neg (by omega), if_pos (by omega), if_neg (by omega)]
    omega
  | 3, _ =>
    rw [if_neg (by omega), if_neg (by omega), if_neg (by omega), if_pos (by omega)]
    omega
theorem IB.sl {s s' : BS} {b : Nat} (h : IB s) (h2 : s.1 ≠ 2) (e : slB s b = some s') : IB s' := by
  obtain ⟨pl, hh, t1, d, p⟩ := s
  obtain ⟨i1, i2, i3, i4, i5, i6⟩ := h
  unfold slB at e
  by_cases c : b = 47 ∧ hh < 5
  · rw [if_pos c] at e
    cases e
    have z : ∀ k, 4 * hh + 4 ≤ k → d k = 0 := fun k hk => i5 k (by
      show 4 * hh + (if pl = 2 then t1 - 1 else t1) ≤ k
      rw [if_neg h2]
      have : t1 ≤ 4 := i2
      omega)
    refine ⟨by show hh + 1 ≤ 5; omega, by show 0 ≤ 4; omega, by show 0 ≤ 3; omega, fun q => absurd (show (0 : Nat) = 2 from q) (by decide), fun k hk => z k ?_, ?_⟩
    · have hk' : 4 * (hh + 1) + (if (0 : Nat) = 2 then 0 - 1 else 0) ≤ k := hk
      rw [if_neg (by decide)] at hk'
      omega
    · show s4 d (hh + 1) ≤ 10
      unfold s4
      rw [z _ (by omega), z _ (by omega), z _ (by omega), z _ (by omega)]
      omega
  · rw [if_neg c] at e
    cases e
theorem IB.le {s s' : BS} {b : Nat} (h : IB s) (h2 : s.1 ≠ 2) (e : leB s b = some s') : IB s' := by
  obtain ⟨pl, hh, t1, d, p⟩ := s
  obtain ⟨i1, i2, i3, i4, i5, i6⟩ := h
  unfold leB at e
  by_cases c : 97 ≤ b ∧ b ≤ 100 ∧ t1 + 97 ≤ b
  · rw [if_pos c] at e
    cases e
    refine ⟨i1, by show b - 96 ≤ 4; omega, by show 2 ≤ 3; omega, fun _ => by show 1 ≤ b - 96; omega, fun k hk => i5 k ?_, i6⟩
    have hk' : 4 * hh + (if (2 : Nat) = 2 then b - 96 - 1 else b - 96) ≤ k := hk
    rw [if_pos rfl] at hk'
    show 4 * hh + (if pl = 2 then t1 - 1 else t1) ≤ k
    rw [if_neg h2]
    omega
  · rw [if_neg c] at e
    cases e
theorem IB.di {s s' : BS} {b : Nat} (h : IB s) (h2 : s.1 = 2) (e : diB s b = some s') : IB s' := by
  obtain ⟨pl, hh, t1, d, p⟩ := s
  obtain ⟨i1, i2, i3, i4, i5, i6⟩ := h
  have h2' : pl = 2 := h2
  subst h2'
  have j4 : 1 ≤ t1 := i4 rfl
  have j2 : t1 ≤ 4 := i2
  have z : ∀ k, 4 * hh + (t1 - 1) ≤ k → d k = 0 := fun k hk => i5 k (by
    show 4 * hh + (if (2 : Nat) = 2 then t1 - 1 else t1) ≤ k
    rw [if_pos rfl]; exact hk)
  unfold diB at e
  by_cases c : 49 ≤ b ∧ b ≤ 57 ∧ s4 d hh + (b - 48) ≤ 10
  · rw [if_pos c] at e
    cases e
    refine ⟨i1, i2, by show 3 ≤ 3; omega, fun q => absurd (show (3 : Nat) = 2 from q) (by decide), fun k hk => ?_, ?_⟩
    · have hk' : 4 * hh + (if (3 : Nat) = 2 then t1 - 1 else t1) ≤ k := hk
      rw [if_neg (by decide)] at hk'
      show (if k = 4 * hh + t1 - 1 then b - 48 else d k) = 0
      rw [if_neg (by omega)]
      exact z k (by omega)
    · show s4 (updN d (4 * hh + t1 - 1) (b - 48)) hh ≤ 10
      rw [show 4 * hh + t1 - 1 = 4 * hh + (t1 - 1) by omega, s4_upd (by omega) (z _ (by omega))]
      exact c.2.2
  · rw [if_neg c] at e
    cases e
theorem IB.st {s s' : BS} {b : Nat} (h : IB s) (e : stepB s b = some s') : IB s' := by
  unfold stepB at e
  by_cases c0 : s.1 = 0
  · rw [if_pos c0] at e
    by_cases c : b = 45
    · rw [if_pos c] at e
      cases e
      obtain ⟨pl, hh, t1, d, p⟩ := s
      obtain ⟨i1, i2, i3, i4, i5, i6⟩ := h
      have c0' : pl = 0 := c0
      subst c0'
      exact ⟨i1, i2, by show 1 ≤ 3; omega, fun q => absurd (show (1 : Nat) = 2 from q) (by decide), i5, i6⟩
    · rw [if_neg c] at e
      exact h.le (by omega) e
  · rw [if_neg c0] at e
    by_cases c1 : s.1 = 1
    · rw [if_pos c1] at e
      exact h.sl (by omega) e
    · rw [if_neg c1] at e
      by_cases c2 : s.1 = 2
      · rw [if_pos c2] at e
        exact h.di c2 e
      · rw [if_neg c2] at e
        by_cases c : b = 47
        · rw [if_pos c] at e
          exact h.sl c2 e
        · rw [if_neg c] at e
          exact h.le c2 e
/-- the class's reader holds a state -/
def CB (ω : Om) (s : BS) : Prop := ω.1 3 1 = s.2.2.2.2 ∧ ω.1 3 2 = nI s.2.1 ∧ ω.1 3 3 = nI s.2.2.1 - nI 1 ∧ ω.1 3 4 = nI (s4 s.2.2.2.1 s.2.1) ∧ ω.1 3 5 = nI s.1 ∧ ∀ k, k < 24 → ω.1 4 k = nI (s.2.2.2.1 k)
theorem t10 {ω : Om} {b h : Nat} (hb : b < 256) (hh : h ≤ 5) (e : ω.1 3 2 = nI h) {Q : Int32 → Om → Prop} (h1 : b = 47 ∧ h < 5 → Q 1 (ui (ui (ui (ui ω 3 2 (nI (h + 1))) 3 3 (-1)) 3 4 0) 3 5 0)) (h0 : ¬ (b = 47 ∧ h < 5) → Q 0 ω) : me_CtI 10 [.ref 3, .int (nI b)] ω Q := by
  refine vc_10 ω (nI b) ?_
  rw [e, nI_1]
  refine ⟨fun c => ⟨fun c2 => vc_6 ω _ ⟨rfl, Or.inr rfl, _, rfl, h1 ⟨(nI_eq (b := 47) (by omega) (by decide)).mp c, (nI_ltI (b := 5) (by omega) (by decide)).mp c2⟩⟩, fun c2 => ⟨Or.inl rfl, _, rfl, h0 (fun q => c2 (nI_lt (b := 5) q.2 (by decide)))⟩⟩, fun c => ⟨Or.inl rfl, _, rfl, h0 (fun q => c (by rw [q.1]; rfl))⟩⟩
theorem th_sub {b : Nat} (h : 97 ≤ b) : nI b - nI 97 = nI (b - 96) - nI 1 := by
  rw [pk_sub h, pk_sub (by omega), Nat.sub_sub]
theorem t11 {ω : Om} {b t1 : Nat} (hb : b < 256) (ht : t1 ≤ 4) (e : ω.1 3 3 = nI t1 - nI 1) {Q : Int32 → Om → Prop} (h1 : 97 ≤ b ∧ b ≤ 100 ∧ t1 + 97 ≤ b → Q 1 (ui (ui ω 3 3 (nI (b - 96) - nI 1)) 3 5 2)) (h0 : ¬ (97 ≤ b ∧ b ≤ 100 ∧ t1 + 97 ≤ b) → Q 0 ω) : me_CtI 11 [.ref 3, .int (nI b)] ω Q := by
  refine vc_11 ω (nI b) ?_
  rw [e, show (97 : Int32) = nI 97 from rfl, show (4 : Int32) = nI 4 from rfl, sub_le_sub (by omega) (by decide) (by omega) (by decide), sub_lt (by omega) (by decide) (by decide)]
  refine ⟨fun c => ⟨Or.inl rfl, _, rfl, h0 (fun q => by omega)⟩, fun c => ⟨fun c2 => ⟨Or.inr rfl, _, rfl, ?_⟩, fun c2 => ⟨Or.inl rfl, _, rfl, h0 (fun q => by omega)⟩⟩⟩
  rw [th_sub (by omega)]
  exact h1 (by omega)
theorem t12 {ω : Om} {b h t1 s : Nat} (hb : b < 256) (hh : h ≤ 5) (ht : t1 ≤ 4) (ht1 : 1 ≤ t1) (hs : s ≤ 10) (e2 : ω.1 3 2 = nI h) (e3 : ω.1 3 3 = nI t1 - nI 1) (e4 : ω.1 3 4 = nI s) {Q : Int32 → Om → Prop} (h1 : 49 ≤ b ∧ b ≤ 57 ∧ s + (b - 48) ≤ 10 → Q 1 (ui (ui (ui (ui ω 4 (4 * h + t1 - 1) (nI (b - 48))) 3 4 (nI (s + (b - 48)))) 3 1 (ω.1 3 1 + 1)) 3 5 3)) (h0 : ¬ (49 ≤ b ∧ b ≤ 57 ∧ s + (b - 48) ≤ 10) → Q 0 ω) : me_CtI 12 [.ref 3, .int (nI b)] ω Q := by
  have ei : nI h * (4 : Int32) + (nI t1 - nI 1) = nI (4 * h + t1 - 1) := by
    rw [pk_sub ht1, ix4]
    congr 1
    omega
  refine vc_12 ω (nI b) ?_
  rw [e2, e3, e4, ei, nI_clamp (by omega), show (48 : Int32) = nI 48 from rfl]
  refine ⟨fun c => ⟨Or.inl rfl, _, rfl, h0 (fun q => ?_)⟩, fun c => ⟨fun c2 => ⟨Or.inl rfl, _, rfl, h0 (fun q => ?_)⟩, fun c2 => ?_⟩⟩
  · have := (sub_lt (c := 48) (m := 1) (by omega) (by decide) (by decide)).mp c
    omega
  · have := (lt_sub (c := 48) (m := 9) (by omega) (by decide) (by decide)).mp c2
    omega
  · have c' : 49 ≤ b := by
      by_cases q : 49 ≤ b
      · exact q
      · exact absurd ((sub_lt (c := 48) (m := 1) (by omega) (by decide) (by decide)).mpr (by omega)) c
    have c2' : b ≤ 57 := by
      by_cases q : b ≤ 57
      · exact q
      · exact absurd ((lt_sub (c := 48) (m := 9) (by omega) (by decide) (by decide)).mpr (by omega)) c2
    rw [pk_sub (by omega), nI_add]
    refine ⟨fun c3 => ⟨Or.inl rfl, _, rfl, h0 (fun q => ?_)⟩, fun c3 => br_f (nI_pos (by omega)) (br_t (nI_lt (b := 24) (by omega) (by decide)) ⟨vp_in_nI (by omega) (by decide), Or.inr rfl, _, rfl, h1 ⟨c', c2', ?_⟩⟩)⟩
    · have := (nI_ltI (a := 10) (by decide) (by omega)).mp c3
      omega
    · by_cases q : s + (b - 48) ≤ 10
      · exact q
      · exact absurd (nI_lt (a := 10) (by omega) (by omega)) c3
theorem CB.sl {ω : Om} {s : BS} {b : Nat} (h : CB ω s) (c : b = 47 ∧ s.2.1 < 5) (hI : IB s) (h2 : s.1 ≠ 2) : CB (ui (ui (ui (ui ω 3 2 (nI (s.2.1 + 1))) 3 3 (-1)) 3 4 0) 3 5 0) (0, s.2.1 + 1, 0, s.2.2.2.1, s.2.2.2.2) := by
  obtain ⟨pl, hh, t1, d, p⟩ := s
  obtain ⟨e1, e2, e3, e4, e5, e6⟩ := h
  obtain ⟨i1, i2, i3, i4, i5, i6⟩ := hI
  have z : ∀ k, 4 * hh + 4 ≤ k → d k = 0 := fun k hk => i5 k (by
    show 4 * hh + (if pl = 2 then t1 - 1 else t1) ≤ k
    rw [if_neg h2]
    have : t1 ≤ 4 := i2
    omega)
  refine ⟨e1, rfl, by show (-1 : Int32) = nI 0 - nI 1; decide, ?_, rfl, e6⟩
  show (0 : Int32) = nI (s4 d (hh + 1))
  unfold s4
  rw [z _ (by omega), z _ (by omega), z _ (by omega), z _ (by omega)]
  rfl
theorem CB.le {ω : Om} {s : BS} {b : Nat} (h : CB ω s) : CB (ui (ui ω 3 3 (nI (b - 96) - nI 1)) 3 5 2) (2, s.2.1, b - 96, s.2.2.2.1, s.2.2.2.2) := by
  obtain ⟨pl, hh, t1, d, p⟩ := s
  obtain ⟨e1, e2, e3, e4, e5, e6⟩ := h
  exact ⟨e1, e2, rfl, e4, rfl, e6⟩
theorem t7 {ω : Om} {s : BS} {b : Nat} (hb : b < 256) (hI : IB s) (hC : CB ω s) {Q : Int32 → Om → Prop} (h1 : ∀ s', stepB s b = some s' → ∀ ω', Sc ω ω' → CB ω' s' → Q 1 ω') (h0 : stepB s b = none → Q 0 ω) : me_CtI 7 [.ref 3, .int (nI b)] ω Q := by
  obtain ⟨e1, e2, e3, e4, e5, e6⟩ := id hC
  obtain ⟨i1, i2, i3, i4, i5, i6⟩ := id hI
  have sc4 : ∀ {a : Nat} {v1 v2 v3 v4 : Int32} {k1 k2 k3 k4 : Nat}, a = 3 → Sc ω (ui (ui (ui (ui ω a k1 v1) a k2 v2) a k3 v3) a k4 v4) := by
    intro a v1 v2 v3 v4 k1 k2 k3 k4 ha
    subst ha
    exact Sc_ui rfl (Sc_ui rfl (Sc_ui rfl (Sc_ui rfl (Sc.o ω))))
  unfold stepB at h1 h0
  refine vc_7 ω (nI b) ?_
  rw [e5]
  by_cases c0 : s.1 = 0
  · rw [if_pos c0] at h1 h0
    refine br_t (by rw [c0]; rfl) (vc_9 ω (nI b) ?_)
    by_cases c : b = 45
    · rw [if_pos c] at h1
      exact br_t (by rw [c]; rfl) ⟨Or.inr rfl, _, rfl, br_f (by decide) ⟨Or.inr rfl, _, rfl, h1 _ rfl _ (Sc_ui rfl (Sc.o ω)) ⟨e1, e2, e3, e4, rfl, e6⟩⟩⟩
    · rw [if_neg c] at h1 h0
      refine br_f (fun q => c ((nI_eq (b := 45) (by omega) (by decide)).mp q)) ⟨Or.inl rfl, _, rfl, br_t rfl (t11 hb i2 e3 (fun q => br_f (by decide) ⟨Or.inr rfl, _, rfl, h1 _ (if_pos q) _ (Sc_ui rfl (Sc_ui rfl (Sc.o ω))) hC.le⟩) (fun q => br_t rfl ⟨Or.inl rfl, _, rfl, h0 (if_neg q)⟩))⟩
  · rw [if_neg c0] at h1 h0
    refine br_f (fun q => c0 ((nI_eq (b := 0) (by omega) (by decide)).mp q)) ?_
    by_cases c1 : s.1 = 1
    · rw [if_pos c1] at h1 h0
      exact br_t (by rw [c1]; rfl) (t10 hb i1 e2 (fun q => ⟨Or.inr rfl, _, rfl, h1 _ (if_pos q) _ (sc4 rfl) (hC.sl q hI (by omega))⟩) (fun q => ⟨Or.inl rfl, _, rfl, h0 (if_neg q)⟩))
    · rw [if_neg c1] at h1 h0
      refine br_f (fun q => c1 ((nI_eq (b := 1) (by omega) (by decide)).mp q)) ?_
      by_cases c2 : s.1 = 2
      · rw [if_pos c2] at h1 h0
        refine br_t (by rw [c2]; rfl) (t12 hb i1 i2 (i4 c2) i6 e2 e3 e4 (fun q => ⟨Or.inr rfl, _, rfl, h1 _ (if_pos q) _ (Sc_ui rfl (Sc_ui rfl (Sc_ui rfl (Sc_ui rfl (Sc.o ω))))) ?_⟩) (fun q => ⟨Or.inl rfl, _, rfl, h0 (if_neg q)⟩))
        have z : s.2.2.2.1 (4 * s.2.1 + (s.2.2.1 - 1)) = 0 := i5 _ (by rw [if_pos c2]; omega)
        have k4 := i4 c2
        refine ⟨?_, e2, e3, ?_, rfl, fun k hk => ?_⟩
        · show ω.1 3 1 + 1 = _
          rw [e1]
        · show nI (s4 s.2.2.2.1 s.2.1 + (b - 48)) = nI (s4 (updN s.2.2.2.1 (4 * s.2.1 + s.2.2.1 - 1) (b - 48)) s.2.1)
          rw [show 4 * s.2.1 + s.2.2.1 - 1 = 4 * s.2.1 + (s.2.2.1 - 1) by omega, s4_upd (by omega) z]
        · show upd (ω.1 4) (4 * s.2.1 + s.2.2.1 - 1) (nI (b - 48)) k = nI (updN s.2.2.2.1 (4 * s.2.1 + s.2.2.1 - 1) (b - 48) k)
          unfold upd updN
          by_cases q2 : k = 4 * s.2.1 + s.2.2.1 - 1
          · rw [if_pos q2, if_pos q2]
          · rw [if_neg q2, if_neg q2]; exact e6 k hk
      · rw [if_neg c2] at h1 h0
        refine br_f (fun q => c2 ((nI_eq (b := 2) (by omega) (by decide)).mp q)) ?_
        by_cases c : b = 47
        · rw [if_pos c] at h1 h0
          refine t10 hb i1 e2 (fun q => br_f (by decide) ⟨Or.inr rfl, _, rfl, h1 _ (if_pos q) _ (sc4 rfl) (hC.sl q hI (by omega))⟩) (fun q => br_t rfl (t11 hb i2 e3 (fun z => absurd z (by omega)) (fun _ => br_t rfl ⟨Or.inl rfl, _, rfl, h0 (if_neg q)⟩)))
        · rw [if_neg c] at h1 h0
          exact t10 hb i1 e2 (fun q => absurd q.1 c) (fun _ => br_t rfl (t11 hb i2 e3 (fun q => br_f (by decide) ⟨Or.inr rfl, _, rfl, h1 _ (if_pos q) _ (Sc_ui rfl (Sc_ui rfl (Sc.o ω))) hC.le⟩) (fun q => br_t rfl ⟨Or.inl rfl, _, rfl, h0 (if_neg q)⟩)))
/-- the reference's reader holds a state -/
def msB (p : Nat) : Nat := if p = 0 then 0 else if p = 1 then 3 else if p = 2 then 1 else 2
def MB (ω : Om) (s : BS) : Prop := ω.1 29 5 = nI s.2.1 ∧ ω.1 29 6 = nI s.2.2.1 - nI 1 ∧ ω.1 29 7 = s.2.2.2.2 ∧ ω.1 29 8 = nI (msB s.1) ∧ ∀ k, k < 24 → ω.1 32 k = nI (s.2.2.2.1 k)
theorem t126 {ω : Om} {h : Nat} {d : Nat → Nat} (hh : h ≤ 5) (e : ω.1 29 5 = nI h) (e6 : ∀ k, k < 24 → ω.1 32 k = nI (d k)) {Q : Int32 → Om → Prop} (q : Q (nI (s4 d h)) ω) : me_CtI 126 [.ref 29] ω Q := by
  have turn : ∀ j a (P : Option Value → Om → Prop), j < 4 → me_W 126 4 [some (.ref 29), some (.int (nI (a + d (4 * h + j)))), some (.int (nI (j + 1)))] [] ω P → me_W 126 4 [some (.ref 29), some (.int (nI a)), some (.int (nI j))] [] ω P := by
    intro j a P hj hw
    refine vl_126_4 ω (nI a) (nI j) (br_f (nI_ge (b := 4) hj (by decide)) ?_)
    rw [e, ix4', nI_clamp (by omega), e6 _ (by omega), nI_add, nI_1]
    exact ⟨vp_in_nI (by omega) (by decide), hw⟩
  refine vc_126 ω (turn 0 0 _ (by decide) (turn 1 _ _ (by decide) (turn 2 _ _ (by decide) (turn 3 _ _ (by decide) (vl_126_4 ω _ _ (br_t (by decide) ⟨_, rfl, ?_⟩))))))
  rw [Nat.zero_add]
  exact q
theorem lt127 {ω : Om} {b t1 : Nat} {P : Option Value → Om → Prop} (hb : b < 256) (ht : t1 ≤ 4) (e6 : ω.1 29 6 = nI t1 - nI 1) (h3 : ¬ ω.1 29 8 = 3) (h1 : 97 ≤ b ∧ b ≤ 100 ∧ t1 + 97 ≤ b → P (some (.int 1)) (ui (ui ω 29 6 (nI (b - 96) - nI 1)) 29 8 1)) (h0 : ¬ (97 ≤ b ∧ b ≤ 100 ∧ t1 + 97 ≤ b) → ∀ ω', Sc ω ω' → P (some (.int 0)) ω') : (((ω.1 29 8) = (3 : Int32) → (((0 : Int32) = 0 → (((0 : Int32) = 0 ∨ (0 : Int32) = 1) ∧ P (some (.int (0 : Int32))) (ui (ui ω 29 6 (ω.1 29 6)) 29 8 (1 : Int32)))) ∧ (¬ (0 : Int32) = 0 → (((0 : Int32) = 0 ∨ (0 : Int32) = 1) ∧ P (some (.int (0 : Int32))) (ui (ui ω 29 6 ((nI b) - (97 : Int32))) 29 8 (1 : Int32)))))) ∧ (¬ (ω.1 29 8) = (3 : Int32) → me_CtI 123 [.long (nI b).toInt64, .long (97 : Int64), .long (100 : Int64)] ω (fun v1 ω1 => ((v1 = 0 → (((0 : Int32) = 0 → (((0 : Int32) = 0 ∨ (0 : Int32) = 1) ∧ P (some (.int (0 : Int32))) (ui (ui ω1 29 6 (ω1.1 29 6)) 29 8 (1 : Int32)))) ∧ (¬ (0 : Int32) = 0 → (((0 : Int32) = 0 ∨ (0 : Int32) = 1) ∧ P (some (.int (0 : Int32))) (ui (ui ω1 29 6 ((nI b) - (97 : Int32))) 29 8 (1 : Int32)))))) ∧ (¬ v1 = 0 → ((((nI b) - (97 : Int32)) ≤ (ω1.1 29 6) → (((0 : Int32) = 0 → (((0 : Int32) = 0 ∨ (0 : Int32) = 1) ∧ P (some (.int (0 : Int32))) (ui (ui ω1 29 6 (ω1.1 29 6)) 29 8 (1 : Int32)))) ∧ (¬ (0 : Int32) = 0 → (((0 : Int32) = 0 ∨ (0 : Int32) = 1) ∧ P (some (.int (0 : Int32))) (ui (ui ω1 29 6 ((nI b) - (97 : Int32))) 29 8 (1 : Int32)))))) ∧ (¬ ((nI b) - (97 : Int32)) ≤ (ω1.1 29 6) → (((1 : Int32) = 0 → (((1 : Int32) = 0 ∨ (1 : Int32) = 1) ∧ P (some (.int (1 : Int32))) (ui (ui ω1 29 6 (ω1.1 29 6)) 29 8 (1 : Int32)))) ∧ (¬ (1 : Int32) = 0 → (((1 : Int32) = 0 ∨ (1 : Int32) = 1) ∧ P (some (.int (1 : Int32))) (ui (ui ω1 29 6 ((nI b) - (97 : Int32))) 29 8 (1 : Int32)))))))))))) := by
  refine br_f h3 (t123b (l := 97) (u := 100) (by omega) (by decide) (by decide) (fun c => br_f (by decide) ?_) (fun c => br_t rfl (br_t rfl ⟨Or.inl rfl, h0 (fun q => c ⟨q.1, q.2.1⟩) _ (Sc_ui rfl (Sc_ui rfl (Sc.o ω)))⟩)))
  rw [e6, show (97 : Int32) = nI 97 from rfl, sub_le_sub (by omega) (by decide) (by omega) (by decide)]
  refine ⟨fun c2 => br_t rfl ⟨Or.inl rfl, h0 (fun q => by omega) _ (Sc_ui rfl (Sc_ui rfl (Sc.o ω)))⟩, fun c2 => br_f (by decide) ⟨Or.inr rfl, ?_⟩⟩
  rw [th_sub c.1]
  exact h1 (by omega)
theorem t127 {ω : Om} {s : BS} {b : Nat} (hb : b < 256) (hI : IB s) (hC : MB ω s) {P : Option Value → Om → Prop} (h1 : ∀ s', stepB s b = some s' → ∀ ω', Sc ω ω' → MB ω' s' → P (some (.int 1)) ω') (h0 : stepB s b = none → ∀ ω', Sc ω ω' → P (some (.int 0)) ω') : me_Ct 127 [.ref 29, .int (nI b)] ω P := by
  obtain ⟨e1, e2, e3, e4, e6⟩ := id hC
  obtain ⟨i1, i2, i3, i4, i5, i6⟩ := id hI
  have n45 : b ≠ 45 → ¬ nI b = 45 := fun c q => c ((nI_eq (b := 45) (by omega) (by decide)).mp q)
  have n47 : b ≠ 47 → ¬ nI b = 47 := fun c q => c ((nI_eq (b := 47) (by omega) (by decide)).mp q)
  have m8 : ω.1 29 8 = nI (msB s.1) := e4
  unfold stepB at h1 h0
  unfold msB at e4
  refine vc_127 ω (nI b) ?_
  by_cases c0 : s.1 = 0
  · rw [if_pos c0] at h1 h0 e4
    refine br_f (by rw [e4]; decide) ?_
    by_cases c : b = 45
    · rw [if_pos c] at h1
      refine br_f (n47 (by omega)) (br_t (by rw [c]; rfl) (br_t (by rw [e4]; rfl) ⟨Or.inr rfl, h1 _ rfl _ (Sc_ui rfl (Sc.o ω)) ⟨e1, e2, e3, rfl, e6⟩⟩))
    · rw [if_neg c] at h1 h0
      have L := lt127 (P := P) hb i2 e2 (by rw [e4]; decide) (fun q => h1 _ (if_pos q) _ (Sc_ui rfl (Sc_ui rfl (Sc.o ω))) ⟨e1, rfl, e3, rfl, e6⟩) (fun q => h0 (if_neg q))
      exact ⟨fun _ => br_t (by rw [e4]; decide) (br_f (n45 c) L), fun _ => br_f (n45 c) L⟩
  · rw [if_neg c0] at h1 h0 e4
    by_cases c1 : s.1 = 1
    · rw [if_pos c1] at h1 h0 e4
      refine br_f (by rw [e4]; decide) ?_
      rw [e1, nI_1]
      refine ⟨fun c => br_f (by rw [e4]; decide) ⟨fun c2 => ⟨Or.inl rfl, h0 (if_neg (fun q => ?_)) _ (Sc_ui rfl (Sc_ui rfl (Sc_ui rfl (Sc.o ω))))⟩, fun c2 => ⟨Or.inr rfl, h1 _ (if_pos ⟨(nI_eq (b := 47) (by omega) (by decide)).mp c, ?_⟩) _ (Sc_ui rfl (Sc_ui rfl (Sc_ui rfl (Sc.o ω)))) ⟨rfl, by show (-1 : Int32) = nI 0 - nI 1; decide, e3, rfl, e6⟩⟩⟩, fun c => ⟨fun c2 => br_f (by rw [e4]; decide) ⟨Or.inl rfl, h0 (if_neg (fun q => c (by rw [q.1]; rfl))) _ (Sc_ui rfl (Sc.o ω))⟩, fun c2 => br_t (by rw [e4]; rfl) (br_t rfl ⟨Or.inl rfl, h0 (if_neg (fun q => c (by rw [q.1]; rfl))) _ (Sc_ui rfl (Sc_ui rfl (Sc.o ω)))⟩)⟩⟩
      · have := (nI_leI (a := 6) (by decide) (by omega)).mp c2
        omega
      · by_cases q : s.2.1 < 5
        · exact q
        · exact absurd (nI_le (a := 6) (by omega) (by omega)) c2
    · rw [if_neg c1] at h1 h0 e4
      by_cases c2 : s.1 = 2
      · rw [if_pos c2] at h1 h0 e4
        have k4 := i4 c2
        have z : s.2.2.2.1 (4 * s.2.1 + (s.2.2.1 - 1)) = 0 := i5 _ (by rw [if_pos c2]; omega)
        have ei : (4 : Int32) * nI s.2.1 + (nI s.2.2.1 - nI 1) = nI (4 * s.2.1 + s.2.2.1 - 1) := by
          rw [pk_sub k4, ix4']
          congr 1
          omega
        have vi : vp_in (nI (4 * s.2.1 + s.2.2.1 - 1)) 24 := vp_in_nI (by omega) (by decide)
        refine br_t (by rw [e4]; rfl) ?_
        refine t123b (l := 49) (u := 57) (by omega) (by decide) (by decide) (fun c => br_f (by decide) (t126 i1 e1 e6 ?_)) (fun c => br_t rfl (br_t rfl ?_))
        · rw [e1, e2, ei, nI_clamp (by omega), nI_add, show (48 : Int32) = nI 48 from rfl, pk_sub (by omega), pk_sub (by omega)]
          refine ⟨fun c3 => br_t rfl ⟨vi, Or.inl rfl, h0 (if_neg (fun q => ?_)) _ (Sc_ui rfl (Sc_ui rfl (Sc_ui rfl (Sc.o ω))))⟩, fun c3 => br_f (by decide) ⟨vi, Or.inr rfl, h1 _ (if_pos ⟨c.1, c.2, ?_⟩) _ (Sc_ui rfl (Sc_ui rfl (Sc_ui rfl (Sc.o ω)))) ⟨e1, e2, ?_, rfl, fun k hk => ?_⟩⟩⟩
          · have := (nI_ltI (a := 10) (by decide) (by omega)).mp c3
            omega
          · show ω.1 29 7 + 1 = _
            rw [e3]
          · show upd (ω.1 32) (4 * s.2.1 + s.2.2.1 - 1) (nI (b - 48)) k = nI (updN s.2.2.2.1 (4 * s.2.1 + s.2.2.1 - 1) (b - 48) k)
            unfold upd updN
            by_cases q2 : k = 4 * s.2.1 + s.2.2.1 - 1
            · rw [if_pos q2, if_pos q2]
            · rw [if_neg q2, if_neg q2]; exact e6 k hk
          · by_cases q : s4 s.2.2.2.1 s.2.1 + (b - 48) ≤ 10
            · exact q
            · exact absurd (nI_lt (a := 10) (by omega) (by omega)) c3
        · rw [e1, e2, ei]
          exact ⟨vi, Or.inl rfl, h0 (if_neg (fun q => c ⟨q.1, q.2.1⟩)) _ (Sc_ui rfl (Sc_ui rfl (Sc_ui rfl (Sc.o ω))))⟩
      · rw [if_neg c2] at h1 h0 e4
        refine br_f (by rw [e4]; decide) ?_
        by_cases c : b = 47
        · rw [if_pos c] at h1 h0
          rw [e1, nI_1]
          refine br_t (by rw [c]; rfl) (br_f (by rw [e4]; decide) ⟨fun c2 => ⟨Or.inl rfl, h0 (if_neg (fun q => ?_)) _ (Sc_ui rfl (Sc_ui rfl (Sc_ui rfl (Sc.o ω))))⟩, fun c2 => ⟨Or.inr rfl, h1 _ (if_pos ⟨c, ?_⟩) _ (Sc_ui rfl (Sc_ui rfl (Sc_ui rfl (Sc.o ω)))) ⟨rfl, by show (-1 : Int32) = nI 0 - nI 1; decide, e3, rfl, e6⟩⟩⟩)
          · have := (nI_leI (a := 6) (by decide) (by omega)).mp c2
            omega
          · by_cases q : s.2.1 < 5
            · exact q
            · exact absurd (nI_le (a := 6) (by omega) (by omega)) c2
        · rw [if_neg c] at h1 h0
          have L := lt127 (P := P) hb i2 e2 (by rw [e4]; decide) (fun q => h1 _ (if_pos q) _ (Sc_ui rfl (Sc_ui rfl (Sc.o ω))) ⟨e1, rfl, e3, rfl, e6⟩) (fun q => h0 (if_neg q))
          refine br_f (n47 c) ⟨fun c3 => br_f (by rw [e4]; decide) ⟨Or.inl rfl, h0 (if_neg (fun q => ?_)) _ (Sc_ui rfl (Sc.o ω))⟩, fun _ => L⟩
          have := (nI_eq (b := 45) (by omega) (by decide)).mp c3
          omega
