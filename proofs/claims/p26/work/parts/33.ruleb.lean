/-! THE RULE'S TEXT: read through; rule, fault -/
def runR (N : Nat) (c : Nat → Nat) : Nat → Nat → RS → Nat × Option RS
  | 0, j, s => (j, some s)
  | n + 1, j, s => match stepR N s (c j) with
    | none => (j, none)
    | some s' => runR N c n (j + 1) s'
theorem runR_n {N : Nat} {c : Nat → Nat} {n j : Nat} {s : RS} (e : stepR N s (c j) = none) : runR N c (n + 1) j s = (j, none) := by simp only [runR, e]
theorem runR_s {N : Nat} {c : Nat → Nat} {n j : Nat} {s s' : RS} (e : stepR N s (c j) = some s') : runR N c (n + 1) j s = runR N c n (j + 1) s' := by simp only [runR, e]
theorem runR_end {N : Nat} {c : Nat → Nat} : ∀ (n j : Nat) (s : RS), ((runR N c n j s).1 < j + n ∧ (runR N c n j s).2 = none) ∨ ((runR N c n j s).1 = j + n ∧ ∃ s', (runR N c n j s).2 = some s')
  | 0, j, s => Or.inr ⟨rfl, s, rfl⟩
  | n + 1, j, s => by
    cases e : stepR N s (c j) with
    | none =>
      rw [runR_n e]
      exact Or.inl ⟨by show j < j + (n + 1); omega, rfl⟩
    | some s' =>
      rw [runR_s e]
      rcases runR_end n (j + 1) s' with ⟨a, b⟩ | ⟨a, b⟩
      · exact Or.inl ⟨by omega, b⟩
      · exact Or.inr ⟨by omega, b⟩
theorem c45r {N : Nat} {ω : Om} {L : Nat} {c : Nat → Nat} {s : RS} (hN : N ≤ 7) (hL : L ≤ 55) (e : ω.1 1 1 = nI L) (hc : ∀ k, k < L → c k < 256 ∧ ω.1 2 k = nI (c k)) {ω1 : Om} (h01 : Sc ω ω1) (hI : IR N s) (hC : CR N ω1 s) {Q : Int32 → Om → Prop} (h : ∀ ω', Sc ω ω' → (∀ s', (runR N c L 0 s).2 = some s' → IR N s' ∧ CR N ω' s') → Q (nI (runR N c L 0 s).1) ω') : me_CtI 45 [.ref 1, .ref 5] ω1 Q := by
  have key : ∀ (n j : Nat) (s : RS) (ω' : Om), j + n = L → Sc ω ω' → IR N s → CR N ω' s → (∀ ω'', Sc ω ω'' → (∀ s', (runR N c n j s).2 = some s' → IR N s' ∧ CR N ω'' s') → Q (nI (runR N c n j s).1) ω'') → me_W 45 2 [some (.ref 1), some (.ref 5), some (.int (nI j))] [] ω' (fun r ω' => ∃ v : Int32, r = some (.int v) ∧ Q v ω') := by
    intro n
    induction n with
    | zero =>
      intro j s ω' hj hs hI hC hq
      obtain rfl : j = L := by omega
      have e' : ω'.1 1 1 = nI j := (hs 1 1 rfl).trans e
      refine vl_45r_2 ω' (nI j) (br_t (by rw [e']; exact Int32.le_refl _) ⟨_, rfl, ?_⟩)
      rw [e']
      refine hq ω' hs (fun s' q => ?_)
      have q' : some s = some s' := q
      cases q'
      exact ⟨hI, hC⟩
    | succ n ih =>
      intro j s ω' hj hs hI hC hq
      have e' : ω'.1 1 1 = nI L := (hs 1 1 rfl).trans e
      obtain ⟨b1, b2⟩ := hc j (by omega)
      refine vl_45r_2 ω' (nI j) (br_f (by rw [e']; exact nI_ge (by omega) (by omega)) (t44 (by omega) ?_))
      rw [hs 2 j rfl, b2, nI_1]
      refine t52 hN b1 hI hC (fun s' es ω'' hs' hC' => br_f (by decide) (ih (j + 1) s' ω'' (by omega) (hs.trans hs') (hI.st hN es) hC' (fun w hw1 hw2 => ?_))) (fun en => br_t rfl ⟨_, rfl, ?_⟩)
      · have := hq w hw1
        rw [runR_s es] at this
        exact this hw2
      · have := hq ω' hs
        rw [runR_n en] at this
        exact this (fun s' q => by cases q)
  exact vc_45r ω1 (key L 0 s ω1 (by omega) h01 hI hC h)
def r0 : RS := (0, 0, fun _ => 0, 0, 0)
theorem IR.o (N : Nat) : IR N r0 := by
  refine ⟨by decide, by decide, Nat.pow_pos (by decide), by decide, fun x => ?_⟩
  show (0 : Nat).testBit x = true ↔ ∃ k, k < 0 ∧ _
  rw [Nat.zero_testBit]
  exact Iff.intro (fun q => Bool.noConfusion q) (fun ⟨_, hk, _⟩ => absurd hk (by omega))
/-- the class reads the rule's text -/
theorem crule {N : Nat} {ω : Om} {L : Nat} {c : Nat → Nat} (hN : N ≤ 7) (hL : L ≤ 55) (e : ω.1 1 1 = nI L) (eN : ω.1 11 4 = nI N) (hc : ∀ k, k < L → c k < 256 ∧ ω.1 2 k = nI (c k)) {Q : Int32 → Om → Prop} (h : ∀ ω', Sc ω ω' → (∀ s', (runR N c L 0 r0).2 = some s' → IR N s' ∧ CR N ω' s') → Q (nI (runR N c L 0 r0).1) ω') : me_CtV 51 [.ref 5, .int (ω.1 11 4)] ω (fun ω1 => me_CtI 45 [.ref 1, .ref 5] ω1 Q) :=
  vc_51 ω _ ⟨rfl, c45r (ω1 := ui (ui (ui (ui (ui ω 5 1 0) 5 2 0) 5 3 (ω.1 11 4)) 5 4 0) 5 5 0) hN hL e hc (Sc_ui rfl (Sc_ui rfl (Sc_ui rfl (Sc_ui rfl (Sc_ui rfl (Sc.o ω)))))) (IR.o N) ⟨rfl, fun q => absurd (show (0 : Nat) = 2 from q) (by decide), eN, rfl, rfl, fun k hk => absurd (show k < 0 from hk) (by omega)⟩ h⟩
theorem m130 {N : Nat} {ω : Om} {L : Nat} {c : Nat → Nat} (hN : N ≤ 7) (hL : L ≤ 55) (e : ω.1 29 1 = nI L) (eN : ω.1 29 15 = nI N) (hc : ∀ k, k < L → c k < 256 ∧ ω.1 30 k = nI (c k)) {Q : Int32 → Om → Prop} (h : ∀ ω', Sc ω ω' → (∀ s', (runR N c L 0 r0).2 = some s' → IR N s' ∧ MR ω' s') → Q (nI (runR N c L 0 r0).1) ω') : me_CtI 130 [.ref 29] ω Q := by
  have key : ∀ (n j : Nat) (s : RS) (ω' : Om), j + n = L → Sc ω ω' → IR N s → MR ω' s → (∀ ω'', Sc ω ω'' → (∀ s', (runR N c n j s).2 = some s' → IR N s' ∧ MR ω'' s') → Q (nI (runR N c n j s).1) ω'') → me_W 130 12 [some (.ref 29), some (.int (nI j))] [] ω' (fun r ω' => ∃ v : Int32, r = some (.int v) ∧ Q v ω') := by
    intro n
    induction n with
    | zero =>
      intro j s ω' hj hs hI hC hq
      obtain rfl : j = L := by omega
      have e' : ω'.1 29 1 = nI j := (hs 29 1 rfl).trans e
      refine vl_130_12 ω' (nI j) (br_t (by rw [e']; exact Int32.le_refl _) ⟨_, rfl, hq ω' hs (fun s' q => ?_)⟩)
      have q' : some s = some s' := q
      cases q'
      exact ⟨hI, hC⟩
    | succ n ih =>
      intro j s ω' hj hs hI hC hq
      have e' : ω'.1 29 1 = nI L := (hs 29 1 rfl).trans e
      have eN' : ω'.1 29 15 = nI N := (hs 29 15 rfl).trans eN
      obtain ⟨b1, b2⟩ := hc j (by omega)
      refine vl_130_12 ω' (nI j) (br_f (by rw [e']; exact nI_ge (by omega) (by omega)) ⟨vp_in_nI (by omega) (by decide), ?_⟩)
      rw [nI_clamp (by omega), hs 30 j rfl, b2, nI_1]
      refine t129 hN eN' b1 hI hC (fun s' es ω'' hs' hC' => ⟨1, rfl, br_f (by decide) (ih (j + 1) s' ω'' (by omega) (hs.trans hs') (hI.st hN es) hC' (fun w hw1 hw2 => ?_))⟩) (fun en ω'' hs' => ⟨0, rfl, br_t rfl ⟨_, rfl, ?_⟩⟩)
      · have := hq w hw1
        rw [runR_s es] at this
        exact this hw2
      · have := hq ω'' (hs.trans hs')
        rw [runR_n en] at this
        exact this (fun s' q => by cases q)
  exact vc_130 ω (key L 0 r0 _ (by omega) (Sc_ui rfl (Sc_ui rfl (Sc.o ω))) (IR.o N) ⟨rfl, fun q => absurd (show (0 : Nat) = 2 from q) (by decide), rfl, fun k hk => absurd (show k < 0 from hk) (by omega)⟩ h)
theorem t133 {N : Nat} {ω : Om} {L : Nat} {c : Nat → Nat} (hN : N ≤ 7) (hL : L ≤ 55) (e : ω.1 29 1 = nI L) (eN : ω.1 29 15 = nI N) (hc : ∀ k, k < L → c k < 256 ∧ ω.1 30 k = nI (c k)) {s : RS} (hs : (runR N c L 0 r0).2 = some s) (hp : s.1 = 2) {Q : Int32 → Om → Prop} (h : ∀ ω' g, Sc ω ω' → (∀ k, k < s.2.1 → g k = nI (s.2.2.1 k)) → Q (nI s.2.1) (ui (ui (ui (ur ω' 33 g) 29 9 (nI s.2.1)) 29 10 (nI s.2.2.2.1)) 29 1 0)) : me_CtI 133 [.ref 29] ω Q := by
  have h1 : (runR N c L 0 r0).1 = L := by
    rcases runR_end (N := N) (c := c) L 0 r0 with ⟨_, b⟩ | ⟨a, _⟩
    · rw [b] at hs; cases hs
    · omega
  refine vc_133 ω (m130 hN hL e eN hc (fun ω' hs' hr => ?_))
  obtain ⟨⟨i1, i2, -⟩, e1, e2, e3, e6⟩ := hr s hs
  have e' : ω'.1 29 1 = nI L := (hs' 29 1 rfl).trans e
  have key : ∀ n j (g : Nat → Int32), j + n = 7 → (∀ k, k < j → g k = ω'.1 34 k) → me_W 133 24 [some (.ref 29), some (.int (nI j))] [] (ur ω' 33 g) (fun r ω' => ∃ v : Int32, r = some (.int v) ∧ Q v ω') := by
    intro n
    induction n with
    | zero =>
      intro j g hj hg
      refine vl_133_24 _ (nI j) (br_t (by rw [show j = 7 by omega]; decide) ⟨_, rfl, ?_⟩)
      have e1' : (ur ω' 33 g).1 29 12 = nI s.2.1 := e1
      have e2' : (ur ω' 33 g).1 29 13 = nI s.2.2.2.1 := e2 hp
      rw [e1', e2']
      exact h ω' g hs' (fun k hk => (hg k (by omega)).trans (e6 k hk))
    | succ n ih =>
      intro j g hj hg
      have v : vp_in (nI j) 7 := vp_in_nI (by omega) (by decide)
      refine vl_133_24 _ (nI j) (br_f (nI_ge (b := 7) (by omega) (by decide)) ⟨v, v, ?_⟩)
      rw [nI_1, nI_clamp (by omega), ui_ur]
      exact ih (j + 1) _ (by omega) (upd_lt hg)
  have k0 := key 7 0 (ω'.1 33) rfl (fun k hk => absurd hk (by omega))
  rw [ur_self] at k0
  rw [h1, e', e3, hp]
  exact br_f (by rw [Int32.lt_iff_toInt_lt]; omega) (br_t rfl k0)
theorem t133n {N : Nat} {ω : Om} {L : Nat} {c : Nat → Nat} (hN : N ≤ 7) (hL : L ≤ 55) (e : ω.1 29 1 = nI L) (eN : ω.1 29 15 = nI N) (hc : ∀ k, k < L → c k < 256 ∧ ω.1 30 k = nI (c k)) (hn : ∀ s, (runR N c L 0 r0).2 = some s → ¬ s.1 = 2) {Q : Int32 → Om → Prop} (h : ∀ ω', Sc ω ω' → Q (-103) ω') : me_CtI 133 [.ref 29] ω Q := by
  refine vc_133 ω (m130 hN hL e eN hc (fun ω' hs' hr => ?_))
  have e' : ω'.1 29 1 = nI L := (hs' 29 1 rfl).trans e
  rw [e']
  rcases runR_end (N := N) (c := c) L 0 r0 with ⟨a, _⟩ | ⟨a, s, hs⟩
  · exact br_t (nI_lt (by omega) (by omega)) ⟨_, rfl, h ω' hs'⟩
  · obtain ⟨⟨i1, i2, -⟩, e1, e2, e3, e6⟩ := hr s hs
    rw [show (runR N c L 0 r0).1 = L by omega, e3]
    exact br_f (by rw [Int32.lt_iff_toInt_lt]; omega) (br_f (fun q => hn s hs ((nI_eq (b := 2) (by omega) (by decide)).mp q)) ⟨_, rfl, h ω' hs'⟩)
theorem t53 {N : Nat} {ω : Om} {s : RS} (hI : IR N s) (hC : CR N ω s) {Q : Int32 → Om → Prop} (h1 : s.1 = 2 → Q 1 ω) (h0 : ¬ s.1 = 2 → Q 0 ω) : me_CtI 53 [.ref 5] ω Q := by
  obtain ⟨e1, e2, e3, e4, e5, e6⟩ := hC
  have i1 : s.1 ≤ 2 := hI.1
  refine vc_53 ω ?_
  rw [e5]
  exact ⟨fun c => ⟨Or.inr rfl, _, rfl, h1 ((nI_eq (b := 2) (by omega) (by decide)).mp c)⟩, fun c => ⟨Or.inl rfl, _, rfl, h0 (fun q => c (by rw [q]; rfl))⟩⟩
theorem q_68 {ω : Om} (hR : R ω) : Pr 68 [.ref 0] 133 [.ref 29] ω := by
  intro Q hQ
  obtain ⟨N, nb, hP, hB, hRr, hG⟩ := id hR
  obtain ⟨L, c, hL, e1, e2, hx, hy⟩ := codes hP
  obtain ⟨⟨hN, g2, g3, -⟩, -⟩ := id hG
  refine vc_68 ω (crule hN hL e1 g2 hx (fun ω' hs hr => ?_))
  have f1 : ω'.1 1 1 = nI L := (hs 1 1 rfl).trans e1
  have f2 : ω'.1 29 1 = nI L := (hs 29 1 rfl).trans e2
  have f3 : ω'.1 29 15 = nI N := (hs 29 15 rfl).trans g3
  have fy : ∀ k, k < L → c k < 256 ∧ ω'.1 30 k = nI (c k) := fun k hk => ⟨(hy k hk).1, (hs 30 k rfl).trans (hy k hk).2⟩
  rw [f1]
  rcases runR_end (N := N) (c := c) L 0 r0 with ⟨a, b⟩ | ⟨a, s, hss⟩
  · exact br_t (nI_lt (by omega) (by omega)) ⟨_, rfl, t133n hN hL f2 f3 fy (fun s q => by rw [b] at q; cases q) (fun ω'' hs' => hQ _ _ ((hR.sc hs).sc hs'))⟩
  · obtain ⟨hI, hC⟩ := hr s hss
    rw [show (runR N c L 0 r0).1 = L by omega]
    refine br_f (by rw [Int32.lt_iff_toInt_lt]; omega) (t53 hI hC (fun hw => br_f (by decide) (vc_48 ω' ⟨by decide, rfl, _, rfl, ?_⟩)) (fun hw => br_t rfl ⟨_, rfl, t133n hN hL f2 f3 fy (fun s' q => by rw [hss] at q; cases q; exact hw) (fun ω'' hs' => hQ _ _ ((hR.sc hs).sc hs'))⟩))
    obtain ⟨c1, c2, c3, c4, c5, c6⟩ := hC
    obtain ⟨i1, i2, i3, i4, i5⟩ := hI
    have gB : Rb1 ω' := Rb1.sc (ω0 := ω) hB hs
    have gG : Rg1 N nb ω' := Rg1.sc (ω0 := ω) hG hs
    have k := t133 (ω := ui (ui (ui (ur ω' 10 (va_cpy (ω'.1 6) (ω'.1 10) 0 0 7)) 9 1 (ω'.1 5 1)) 9 2 (ω'.1 5 2)) 1 1 0) (Q := fun u ω2 => Q (nI s.2.1) u ω2) hN hL f2 f3 fy hss hw (fun w g hw1 hg => hQ _ _ ⟨N, nb, ⟨0, by omega, hw1 1 1 rfl, rfl, fun k hk => absurd hk (by omega)⟩, Rb1.sc (ω := w) (ω0 := ui (ui (ui (ur ω' 10 (va_cpy (ω'.1 6) (ω'.1 10) 0 0 7)) 9 1 (ω'.1 5 1)) 9 2 (ω'.1 5 2)) 1 1 0) gB hw1, ⟨(hw1 9 2 rfl).trans (c2 hw), s.2.1, i2, (hw1 9 1 rfl).trans c1, rfl, fun k hk => ⟨?_, s.2.2.1 k, ?_, hg k hk⟩⟩, Rg1.sc (ω := w) (ω0 := ui (ui (ui (ur ω' 10 (va_cpy (ω'.1 6) (ω'.1 10) 0 0 7)) 9 1 (ω'.1 5 1)) 9 2 (ω'.1 5 2)) 1 1 0) gG hw1⟩)
    · have e7 : (ui (ui (ur ω' 10 (va_cpy (ω'.1 6) (ω'.1 10) 0 0 7)) 9 1 (ω'.1 5 1)) 9 2 (ω'.1 5 2)).1 9 1 = nI s.2.1 := c1
      rw [e7]
      exact k
    · show w.1 10 k = g k
      rw [hg k hk, hw1 10 k rfl]
      show va_cpy (ω'.1 6) (ω'.1 10) 0 0 7 k = _
      rw [cpy0 (by omega)]
      exact c6 k hk
    · have := bit_lt i3 ((i5 _).mpr ⟨k, hk, rfl⟩)
      omega
theorem q_66 {ω : Om} (hR : R ω) (a : Int32) : Pr 66 [.ref 0, .int a] 131 [.ref 29, .int a] ω := by
  intro Q hQ
  obtain ⟨N, nb, hP, hB, hRr, hG⟩ := id hR
  obtain ⟨L, c, hL, e1, e2, hx, hy⟩ := codes hP
  obtain ⟨⟨hN, g2, g3, -⟩, -⟩ := id hG
  have fy : ∀ {ω' : Om}, Sc ω ω' → ∀ k, k < L → c k < 256 ∧ ω'.1 30 k = nI (c k) := fun hs k hk => ⟨(hy k hk).1, (hs 30 k rfl).trans (hy k hk).2⟩
  refine vc_66 ω a ⟨fun c0 => cbell hL e1 hx (fun ω' hs _ => ⟨_, rfl, vc_131 ω' a (br_t c0 (m128 hL ((hs 29 1 rfl).trans e2) (fy hs) (fun ω'' hs' _ => ⟨_, rfl, hQ _ _ ((hR.sc hs).sc hs')⟩)))⟩), fun c0 => ⟨fun c1 => crule hN hL e1 g2 hx (fun ω' hs _ => ⟨_, rfl, vc_131 ω' a (br_f c0 (br_t c1 (m130 hN hL ((hs 29 1 rfl).trans e2) ((hs 29 15 rfl).trans g3) (fy hs) (fun ω'' hs' _ => ⟨_, rfl, hQ _ _ ((hR.sc hs).sc hs')⟩))))⟩), fun c1 => ⟨_, rfl, vc_131 ω a (br_f c0 (br_f c1 ⟨_, rfl, hQ _ _ hR⟩))⟩⟩⟩
