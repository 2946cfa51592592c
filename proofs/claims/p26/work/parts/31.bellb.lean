/-! THE BELL'S TEXT: read through; bell -/
theorem Sc_ur {ω0 ω : Om} {i : Nat} {f : Nat → Int32} (hn : ∀ k, isS i k = false) (h : Sc ω0 ω) : Sc ω0 (ur ω i f) := by
  intro a b hab
  show (if a = i then f else ω.1 a) b = _
  by_cases e : a = i
  · subst e
    rw [hn b] at hab
    cases hab
  · rw [if_neg e]; exact h a b hab
def Rb1 (ω : Om) : Prop := RB (ω.1 7 1) (ω.1 29 3) (ω.1 8) (ω.1 31)
def Rr1 (ω : Om) : Prop := RR (ω.1 9 1) (ω.1 29 9) (ω.1 10) (ω.1 33) (ω.1 9 2) (ω.1 29 10)
def Rg1 (N nb : Nat) (ω : Om) : Prop := RH N nb (ω.1 11 4) (ω.1 29 15) (ω.1 11 5) (ω.1 12) (ω.1 35) (ω.1 13) (ω.1 36) (ω.1 14) (ω.1 37) (ω.1 15) (ω.1 38) ∧ RN N nb (ω.1 16 0) (ω.1 29 16) (ω.1 16 1) (ω.1 29 17) (ω.1 16 2) (ω.1 29 18) (ω.1 16 3) (ω.1 29 19) ∧ RI N nb (ω.1 17 2) (ω.1 29 31) (ω.1 17 3) (ω.1 29 30) (ω.1 17 4) (ω.1 29 32) (ω.1 17 5) (ω.1 29 33) (ω.1 17 6) (ω.1 29 34) (ω.1 18) (ω.1 45) (ω.1 19) (ω.1 44)
theorem Sc.row {ω0 ω : Om} (hs : Sc ω0 ω) (i : Nat) (hi : ∀ k, isS i k = true) : ω.1 i = ω0.1 i := funext fun k => hs i k (hi k)
theorem Rb1.sc {ω0 ω : Om} (h : Rb1 ω0) (hs : Sc ω0 ω) : Rb1 ω := by
  unfold Rb1
  rw [hs 7 1 rfl, hs 29 3 rfl, hs.row 8 (fun _ => rfl), hs.row 31 (fun _ => rfl)]
  exact h
theorem Rr1.sc {ω0 ω : Om} (h : Rr1 ω0) (hs : Sc ω0 ω) : Rr1 ω := by
  unfold Rr1
  rw [hs 9 1 rfl, hs 29 9 rfl, hs.row 10 (fun _ => rfl), hs.row 33 (fun _ => rfl), hs 9 2 rfl, hs 29 10 rfl]
  exact h
theorem Rg1.sc {N nb : Nat} {ω0 ω : Om} (h : Rg1 N nb ω0) (hs : Sc ω0 ω) : Rg1 N nb ω := by
  unfold Rg1
  rw [hs 11 4 rfl, hs 29 15 rfl, hs 11 5 rfl, hs.row 12 (fun _ => rfl), hs.row 35 (fun _ => rfl), hs.row 13 (fun _ => rfl), hs.row 36 (fun _ => rfl), hs.row 14 (fun _ => rfl), hs.row 37 (fun _ => rfl), hs.row 15 (fun _ => rfl), hs.row 38 (fun _ => rfl), hs 16 0 rfl, hs 29 16 rfl, hs 16 1 rfl, hs 29 17 rfl, hs 16 2 rfl, hs 29 18 rfl, hs 16 3 rfl, hs 29 19 rfl, hs 17 2 rfl, hs 29 31 rfl, hs 17 3 rfl, hs 29 30 rfl, hs 17 4 rfl, hs 29 32 rfl, hs 17 5 rfl, hs 29 33 rfl, hs 17 6 rfl, hs 29 34 rfl, hs.row 18 (fun _ => rfl), hs.row 45 (fun _ => rfl), hs.row 19 (fun _ => rfl), hs.row 44 (fun _ => rfl)]
  exact h
def runB (c : Nat → Nat) : Nat → Nat → BS → Nat × Option BS
  | 0, j, s => (j, some s)
  | n + 1, j, s => match stepB s (c j) with
    | none => (j, none)
    | some s' => runB c n (j + 1) s'
theorem runB_n {c : Nat → Nat} {n j : Nat} {s : BS} (e : stepB s (c j) = none) : runB c (n + 1) j s = (j, none) := by simp only [runB, e]
theorem runB_s {c : Nat → Nat} {n j : Nat} {s s' : BS} (e : stepB s (c j) = some s') : runB c (n + 1) j s = runB c n (j + 1) s' := by simp only [runB, e]
theorem runB_end {c : Nat → Nat} : ∀ (n j : Nat) (s : BS), ((runB c n j s).1 < j + n ∧ (runB c n j s).2 = none) ∨ ((runB c n j s).1 = j + n ∧ ∃ s', (runB c n j s).2 = some s')
  | 0, j, s => Or.inr ⟨rfl, s, rfl⟩
  | n + 1, j, s => by
    cases e : stepB s (c j) with
    | none =>
      rw [runB_n e]
      exact Or.inl ⟨by show j < j + (n + 1); omega, rfl⟩
    | some s' =>
      rw [runB_s e]
      rcases runB_end n (j + 1) s' with ⟨a, b⟩ | ⟨a, b⟩
      · exact Or.inl ⟨by omega, b⟩
      · exact Or.inr ⟨by omega, b⟩
theorem t44 {ω : Om} {k : Nat} (hk : k < 55) {Q : Int32 → Om → Prop} (h : Q (ω.1 2 k) ω) : me_CtI 44 [.ref 1, .int (nI k)] ω Q := by
  refine vc_44 ω (nI k) (br_f (nI_pos (by omega)) (br_f (nI_ge (b := 55) hk (by decide)) ⟨vp_in_nI hk (by decide), _, rfl, ?_⟩))
  rw [nI_clamp (by omega)]
  exact h
theorem c45b {ω : Om} {L : Nat} {c : Nat → Nat} {s : BS} (hL : L ≤ 55) (e : ω.1 1 1 = nI L) (hc : ∀ k, k < L → c k < 256 ∧ ω.1 2 k = nI (c k)) {ω1 : Om} (h01 : Sc ω ω1) (hI : IB s) (hC : CB ω1 s) {Q : Int32 → Om → Prop} (h : ∀ ω', Sc ω ω' → (∀ s', (runB c L 0 s).2 = some s' → IB s' ∧ CB ω' s') → Q (nI (runB c L 0 s).1) ω') : me_CtI 45 [.ref 1, .ref 3] ω1 Q := by
  have key : ∀ (n j : Nat) (s : BS) (ω' : Om), j + n = L → Sc ω ω' → IB s → CB ω' s → (∀ ω'', Sc ω ω'' → (∀ s', (runB c n j s).2 = some s' → IB s' ∧ CB ω'' s') → Q (nI (runB c n j s).1) ω'') → me_W 45 2 [some (.ref 1), some (.ref 3), some (.int (nI j))] [] ω' (fun r ω' => ∃ v : Int32, r = some (.int v) ∧ Q v ω') := by
    intro n
    induction n with
    | zero =>
      intro j s ω' hj hs hI hC hq
      obtain rfl : j = L := by omega
      have e' : ω'.1 1 1 = nI j := (hs 1 1 rfl).trans e
      refine vl_45b_2 ω' (nI j) (br_t (by rw [e']; exact Int32.le_refl _) ⟨_, rfl, ?_⟩)
      rw [e']
      refine hq ω' hs (fun s' q => ?_)
      have q' : some s = some s' := q
      cases q'
      exact ⟨hI, hC⟩
    | succ n ih =>
      intro j s ω' hj hs hI hC hq
      have e' : ω'.1 1 1 = nI L := (hs 1 1 rfl).trans e
      obtain ⟨b1, b2⟩ := hc j (by omega)
      refine vl_45b_2 ω' (nI j) (br_f (by rw [e']; exact nI_ge (by omega) (by omega)) (t44 (by omega) ?_))
      rw [hs 2 j rfl, b2, nI_1]
      refine t7 b1 hI hC (fun s' es ω'' hs' hC' => br_f (by decide) (ih (j + 1) s' ω'' (by omega) (hs.trans hs') (hI.st es) hC' (fun w hw1 hw2 => ?_))) (fun en => br_t rfl ⟨_, rfl, ?_⟩)
      · have := hq w hw1
        rw [runB_s es] at this
        exact this hw2
      · have := hq ω' hs
        rw [runB_n en] at this
        exact this (fun s' q => by cases q)
  exact vc_45b ω1 (key L 0 s ω1 (by omega) h01 hI hC h)
theorem t5 {ω : Om} {Q : Om → Prop} (h : ∀ g : Nat → Int32, (∀ k, k < 24 → g k = 0) → Q (ui (ui (ui (ui (ui (ur ω 4 g) 3 1 0) 3 2 0) 3 3 (-1)) 3 4 0) 3 5 0)) : me_CtV 5 [.ref 3] ω Q := by
  have key : ∀ n j (g : Nat → Int32), j + n = 24 → (∀ k, k < j → g k = 0) → me_W 5 2 [some (.ref 3), some (.int (nI j))] [] (ur ω 4 g) (fun r ω' => r = none ∧ Q ω') := by
    intro n
    induction n with
    | zero =>
      intro j g hj hg
      exact vl_5_2 _ (nI j) (br_t (by rw [show j = 24 by omega]; decide) (vc_6 _ _ ⟨rfl, rfl, h g (fun k hk => hg k (by omega))⟩))
    | succ n ih =>
      intro j g hj hg
      refine vl_5_2 _ (nI j) (br_f (nI_ge (b := 24) (by omega) (by decide)) ⟨vp_in_nI (by omega) (by decide), ?_⟩)
      rw [nI_1, nI_clamp (by omega), ui_ur]
      exact ih (j + 1) _ (by omega) (upd_lt (f := fun _ => 0) hg)
  have k0 := key 24 0 (ω.1 4) rfl (fun k hk => absurd hk (by omega))
  rw [ur_self] at k0
  exact vc_5 ω k0
def b0 : BS := (0, 0, 0, fun _ => 0, 0)
theorem IB.o : IB b0 := ⟨by decide, by decide, by decide, fun q => absurd q (by decide), fun _ _ => rfl, by decide⟩
/-- the class reads the bell's text -/
theorem cbell {ω : Om} {L : Nat} {c : Nat → Nat} (hL : L ≤ 55) (e : ω.1 1 1 = nI L) (hc : ∀ k, k < L → c k < 256 ∧ ω.1 2 k = nI (c k)) {Q : Int32 → Om → Prop} (h : ∀ ω', Sc ω ω' → (∀ s', (runB c L 0 b0).2 = some s' → IB s' ∧ CB ω' s') → Q (nI (runB c L 0 b0).1) ω') : me_CtV 5 [.ref 3] ω (fun ω1 => me_CtI 45 [.ref 1, .ref 3] ω1 Q) :=
  t5 (fun g hg => c45b (ω1 := ui (ui (ui (ui (ui (ur ω 4 g) 3 1 0) 3 2 0) 3 3 (-1)) 3 4 0) 3 5 0) hL e hc (Sc_ui rfl (Sc_ui rfl (Sc_ui rfl (Sc_ui rfl (Sc_ui rfl (Sc_ur (fun _ => rfl) (Sc.o ω))))))) IB.o ⟨rfl, rfl, by show (-1 : Int32) = nI 0 - nI 1; decide, rfl, rfl, hg⟩ h)
theorem m128 {ω : Om} {L : Nat} {c : Nat → Nat} (hL : L ≤ 55) (e : ω.1 29 1 = nI L) (hc : ∀ k, k < L → c k < 256 ∧ ω.1 30 k = nI (c k)) {Q : Int32 → Om → Prop} (h : ∀ ω', Sc ω ω' → (∀ s', (runB c L 0 b0).2 = some s' → IB s' ∧ MB ω' s') → Q (nI (runB c L 0 b0).1) ω') : me_CtI 128 [.ref 29] ω Q := by
  have key : ∀ (n j : Nat) (s : BS) (ω' : Om), j + n = L → Sc ω ω' → IB s → MB ω' s → (∀ ω'', Sc ω ω'' → (∀ s', (runB c n j s).2 = some s' → IB s' ∧ MB ω'' s') → Q (nI (runB c n j s).1) ω'') → me_W 128 43 [some (.ref 29), some (.int (nI j))] [] ω' (fun r ω' => ∃ v : Int32, r = some (.int v) ∧ Q v ω') := by
    intro n
    induction n with
    | zero =>
      intro j s ω' hj hs hI hC hq
      obtain rfl : j = L := by omega
      have e' : ω'.1 29 1 = nI j := (hs 29 1 rfl).trans e
      refine vl_128_43 ω' (nI j) (br_t (by rw [e']; exact Int32.le_refl _) ⟨_, rfl, hq ω' hs (fun s' q => ?_)⟩)
      have q' : some s = some s' := q
      cases q'
      exact ⟨hI, hC⟩
    | succ n ih =>
      intro j s ω' hj hs hI hC hq
      have e' : ω'.1 29 1 = nI L := (hs 29 1 rfl).trans e
      obtain ⟨b1, b2⟩ := hc j (by omega)
      refine vl_128_43 ω' (nI j) (br_f (by rw [e']; exact nI_ge (by omega) (by omega)) ⟨vp_in_nI (by omega) (by decide), ?_⟩)
      rw [nI_clamp (by omega), hs 30 j rfl, b2, nI_1]
      refine t127 b1 hI hC (fun s' es ω'' hs' hC' => ⟨1, rfl, br_f (by decide) (ih (j + 1) s' ω'' (by omega) (hs.trans hs') (hI.st es) hC' (fun w hw1 hw2 => ?_))⟩) (fun en ω'' hs' => ⟨0, rfl, br_t rfl ⟨_, rfl, ?_⟩⟩)
      · have := hq w hw1
        rw [runB_s es] at this
        exact this hw2
      · have := hq ω'' (hs.trans hs')
        rw [runB_n en] at this
        exact this (fun s' q => by cases q)
  have k1 : ∀ n j (g : Nat → Int32), j + n = 24 → (∀ k, k < j → g k = 0) → me_W 128 2 [some (.ref 29), some (.int (nI j))] [] (ur ω 32 g) (fun r ω' => ∃ v : Int32, r = some (.int v) ∧ Q v ω') := by
    intro n
    induction n with
    | zero =>
      intro j g hj hg
      exact vl_128_2 _ (nI j) (br_t (by rw [show j = 24 by omega]; decide) (key L 0 b0 _ (by omega) (Sc_ui rfl (Sc_ui rfl (Sc_ui rfl (Sc_ui rfl (Sc_ur (fun _ => rfl) (Sc.o ω)))))) IB.o ⟨rfl, by show (-1 : Int32) = nI 0 - nI 1; decide, rfl, rfl, fun k hk => hg k (by omega)⟩ h))
    | succ n ih =>
      intro j g hj hg
      refine vl_128_2 _ (nI j) (br_f (nI_ge (b := 24) (by omega) (by decide)) ⟨vp_in_nI (by omega) (by decide), ?_⟩)
      rw [nI_1, nI_clamp (by omega), ui_ur]
      exact ih (j + 1) _ (by omega) (upd_lt (f := fun _ => 0) hg)
  have k0 := k1 24 0 (ω.1 32) rfl (fun k hk => absurd hk (by omega))
  rw [ur_self] at k0
  exact vc_128 ω k0
/-- the codes of a page -/
theorem codes {a b : Int32} {x y : Nat → Int32} (h : RP a b x y) : ∃ (L : Nat) (c : Nat → Nat), L ≤ 55 ∧ a = nI L ∧ b = nI L ∧ (∀ k, k < L → c k < 256 ∧ x k = nI (c k)) ∧ (∀ k, k < L → c k < 256 ∧ y k = nI (c k)) := by
  obtain ⟨L, hL, e1, e2, h1⟩ := h
  refine ⟨L, fun k => (y k).toBitVec.toNat, hL, e1, e2, fun k hk => ?_, fun k hk => ?_⟩
  · obtain ⟨h2, n, hn, h3⟩ := h1 k hk
    show (y k).toBitVec.toNat < 256 ∧ x k = nI (y k).toBitVec.toNat
    rw [h2, h3, pk_tn (by omega)]
    exact ⟨hn, rfl⟩
  · obtain ⟨h2, n, hn, h3⟩ := h1 k hk
    show (y k).toBitVec.toNat < 256 ∧ y k = nI (y k).toBitVec.toNat
    rw [h3, pk_tn (by omega)]
    exact ⟨hn, rfl⟩
theorem t132 {ω : Om} {L : Nat} {c : Nat → Nat} (hL : L ≤ 55) (e : ω.1 29 1 = nI L) (hc : ∀ k, k < L → c k < 256 ∧ ω.1 30 k = nI (c k)) {s : BS} (hs : (runB c L 0 b0).2 = some s) (hh : s.2.1 = 5) (hp : s.1 = 1 ∨ s.1 = 3) {Q : Int32 → Om → Prop} (h : ∀ ω' g, Sc ω ω' → (∀ k, k < 24 → g k = nI (s.2.2.2.1 k)) → Q s.2.2.2.2 (ui (ui (ur ω' 31 g) 29 3 s.2.2.2.2) 29 1 0)) : me_CtI 132 [.ref 29] ω Q := by
  have h1 : (runB c L 0 b0).1 = L := by
    rcases runB_end (c := c) L 0 b0 with ⟨_, b⟩ | ⟨a, _⟩
    · rw [b] at hs; cases hs
    · omega
  refine vc_132 ω (m128 hL e hc (fun ω' hs' hr => ?_))
  obtain ⟨hI, e1, e2, e3, e4, e6⟩ := hr s hs
  have e' : ω'.1 29 1 = nI L := (hs' 29 1 rfl).trans e
  have key : ∀ n j (g : Nat → Int32), j + n = 24 → (∀ k, k < j → g k = ω'.1 32 k) → me_W 132 32 [some (.ref 29), some (.int (nI j))] [] (ur ω' 31 g) (fun r ω' => ∃ v : Int32, r = some (.int v) ∧ Q v ω') := by
    intro n
    induction n with
    | zero =>
      intro j g hj hg
      refine vl_132_32 _ (nI j) (br_t (by rw [show j = 24 by omega]; decide) ⟨_, rfl, ?_⟩)
      have e3' : (ur ω' 31 g).1 29 7 = s.2.2.2.2 := e3
      rw [e3']
      exact h ω' g hs' (fun k hk => (hg k (by omega)).trans (e6 k hk))
    | succ n ih =>
      intro j g hj hg
      have v : vp_in (nI j) 24 := vp_in_nI (by omega) (by decide)
      refine vl_132_32 _ (nI j) (br_f (nI_ge (b := 24) (by omega) (by decide)) ⟨v, v, ?_⟩)
      rw [nI_1, nI_clamp (by omega), ui_ur]
      exact ih (j + 1) _ (by omega) (upd_lt hg)
  have k0 := key 24 0 (ω'.1 31) rfl (fun k hk => absurd hk (by omega))
  rw [ur_self] at k0
  rw [h1, e', e1, hh, e4]
  refine br_f (by rw [Int32.lt_iff_toInt_lt]; omega) (br_t rfl (br_t ?_ k0))
  rcases hp with hp | hp
  · rw [hp]; decide
  · rw [hp]; decide
theorem t132n {ω : Om} {L : Nat} {c : Nat → Nat} (hL : L ≤ 55) (e : ω.1 29 1 = nI L) (hc : ∀ k, k < L → c k < 256 ∧ ω.1 30 k = nI (c k)) (hn : ∀ s, (runB c L 0 b0).2 = some s → ¬ (s.2.1 = 5 ∧ (s.1 = 1 ∨ s.1 = 3))) {Q : Int32 → Om → Prop} (h : ∀ ω', Sc ω ω' → Q (-103) ω') : me_CtI 132 [.ref 29] ω Q := by
  refine vc_132 ω (m128 hL e hc (fun ω' hs' hr => ?_))
  have e' : ω'.1 29 1 = nI L := (hs' 29 1 rfl).trans e
  rw [e']
  rcases runB_end (c := c) L 0 b0 with ⟨a, _⟩ | ⟨a, s, hs⟩
  · exact br_t (nI_lt (by omega) (by omega)) ⟨_, rfl, h ω' hs'⟩
  · obtain ⟨⟨i1, i2, i3, -⟩, e1, e2, e3, e4, e6⟩ := hr s hs
    rw [show (runB c L 0 b0).1 = L by omega]
    refine br_f (by rw [Int32.lt_iff_toInt_lt]; omega) ?_
    rw [e1, e4]
    refine ⟨fun c1 => ?_, fun _ => ⟨_, rfl, h ω' hs'⟩⟩
    have h5 : s.2.1 = 5 := (nI_eq (b := 5) (by omega) (by decide)).mp c1
    have hp : ¬ (s.1 = 1 ∨ s.1 = 3) := fun q => hn s hs ⟨h5, q⟩
    refine br_f ?_ ⟨_, rfl, h ω' hs'⟩
    have : s.1 = 0 ∨ s.1 = 2 := by omega
    rcases this with q | q
    · rw [q]; decide
    · rw [q]; decide
theorem t8 {ω : Om} {s : BS} (hI : IB s) (hC : CB ω s) {Q : Int32 → Om → Prop} (h1 : s.2.1 = 5 ∧ (s.1 = 1 ∨ s.1 = 3) → Q 1 ω) (h0 : ¬ (s.2.1 = 5 ∧ (s.1 = 1 ∨ s.1 = 3)) → Q 0 ω) : me_CtI 8 [.ref 3] ω Q := by
  obtain ⟨e1, e2, e3, e4, e5, e6⟩ := hC
  obtain ⟨i1, i2, i3, -⟩ := hI
  refine vc_8 ω ?_
  rw [e2, e5]
  refine ⟨fun c => ⟨fun c2 => ⟨Or.inr rfl, _, rfl, h1 ⟨?_, Or.inl ?_⟩⟩, fun c2 => ⟨fun c3 => ⟨Or.inr rfl, _, rfl, h1 ⟨?_, Or.inr ?_⟩⟩, fun c3 => ⟨Or.inl rfl, _, rfl, h0 (fun q => q.2.elim (fun z => c2 (by rw [z]; rfl)) (fun z => c3 (by rw [z]; rfl)))⟩⟩⟩, fun c => ⟨Or.inl rfl, _, rfl, h0 (fun q => c (by rw [q.1]; rfl))⟩⟩
  · exact (nI_eq (b := 5) (by omega) (by decide)).mp c
  · exact (nI_eq (b := 1) (by omega) (by decide)).mp c2
  · exact (nI_eq (b := 5) (by omega) (by decide)).mp c
  · exact (nI_eq (b := 3) (by omega) (by decide)).mp c3
theorem q_67 {ω : Om} (hR : R ω) : Pr 67 [.ref 0] 132 [.ref 29] ω := by
  intro Q hQ
  obtain ⟨N, nb, hP, hB, hRr, hG⟩ := id hR
  obtain ⟨L, c, hL, e1, e2, hx, hy⟩ := codes hP
  refine vc_67 ω (cbell hL e1 hx (fun ω' hs hr => ?_))
  have f1 : ω'.1 1 1 = nI L := (hs 1 1 rfl).trans e1
  have f2 : ω'.1 29 1 = nI L := (hs 29 1 rfl).trans e2
  have fy : ∀ k, k < L → c k < 256 ∧ ω'.1 30 k = nI (c k) := fun k hk => ⟨(hy k hk).1, (hs 30 k rfl).trans (hy k hk).2⟩
  rw [f1]
  rcases runB_end (c := c) L 0 b0 with ⟨a, b⟩ | ⟨a, s, hss⟩
  · exact br_t (nI_lt (by omega) (by omega)) ⟨_, rfl, t132n hL f2 fy (fun s q => by rw [b] at q; cases q) (fun ω'' hs' => hQ _ _ ((hR.sc hs).sc hs'))⟩
  · obtain ⟨hI, hC⟩ := hr s hss
    rw [show (runB c L 0 b0).1 = L by omega]
    refine br_f (by rw [Int32.lt_iff_toInt_lt]; omega) (t8 hI hC (fun hw => br_f (by decide) (vc_1 ω' ⟨by decide, rfl, Or.inl rfl, _, rfl, ?_⟩)) (fun hw => br_t rfl ⟨_, rfl, t132n hL f2 fy (fun s' q => by rw [hss] at q; cases q; exact hw) (fun ω'' hs' => hQ _ _ ((hR.sc hs).sc hs'))⟩))
    obtain ⟨c1, c2, c3, c4, c5, c6⟩ := hC
    have gB : RR (ω'.1 9 1) (ω'.1 29 9) (ω'.1 10) (ω'.1 33) (ω'.1 9 2) (ω'.1 29 10) := Rr1.sc (ω0 := ω) hRr hs
    have gG : Rg1 N nb ω' := Rg1.sc (ω0 := ω) hG hs
    have k := t132 (ω := ui (ui (ui (ur ω' 8 (va_cpy (ω'.1 4) (ω'.1 8) 0 0 24)) 7 1 (ω'.1 3 1)) 1 1 0) 0 11 0) (Q := fun u ω2 => Q s.2.2.2.2 u ω2) hL f2 fy hss hw.1 hw.2 (fun w g hw1 hg => hQ _ _ ⟨N, nb, ⟨0, by omega, hw1 1 1 rfl, rfl, fun k hk => absurd hk (by omega)⟩, ⟨(hw1 7 1 rfl).trans c1, fun k hk => ?_⟩, Rr1.sc (ω := w) (ω0 := ui (ui (ui (ur ω' 8 (va_cpy (ω'.1 4) (ω'.1 8) 0 0 24)) 7 1 (ω'.1 3 1)) 1 1 0) 0 11 0) gB hw1, Rg1.sc (ω := w) (ω0 := ui (ui (ui (ur ω' 8 (va_cpy (ω'.1 4) (ω'.1 8) 0 0 24)) 7 1 (ω'.1 3 1)) 1 1 0) 0 11 0) gG hw1⟩)
    · have e7 : (ui (ur ω' 8 (va_cpy (ω'.1 4) (ω'.1 8) 0 0 24)) 7 1 (ω'.1 3 1)).1 7 1 = s.2.2.2.2 := c1
      rw [e7]
      exact k
    · show w.1 8 k = g k
      rw [hg k hk, hw1 8 k rfl]
      show va_cpy (ω'.1 4) (ω'.1 8) 0 0 24 k = _
      rw [cpy0 hk]
      exact c6 k hk
