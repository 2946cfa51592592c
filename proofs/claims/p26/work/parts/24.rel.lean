/-! THE TWO STATES ARE ALIKE -/
def RP (a b : Int32) (c d : Nat → Int32) : Prop := ∃ L : Nat, L ≤ 55 ∧ a = nI L ∧ b = nI L ∧ ∀ k, k < L → c k = d k ∧ ∃ b : Nat, b < 256 ∧ d k = nI b
def RB (a b : Int32) (c d : Nat → Int32) : Prop := a = b ∧ ∀ k, k < 24 → c k = d k
def RR (a b : Int32) (c d : Nat → Int32) (t u : Int32) : Prop := t = u ∧ ∃ m : Nat, m ≤ 7 ∧ a = nI m ∧ b = nI m ∧ ∀ k, k < m → c k = d k ∧ ∃ s : Nat, s < 7 ∧ d k = nI s
def RH (N nb : Nat) (a b n : Int32) (ck mk cc mc cs ms ch mh : Nat → Int32) : Prop := N ≤ 7 ∧ a = nI N ∧ b = nI N ∧ nb < 2 ^ N ∧ n = nI nb ∧ (∀ s, s < N → (nb.testBit s = true ↔ mk s = 1)) ∧ (∀ k, k < 7 → ck k = mk k) ∧ (∀ k, k < 7 → cc k = mc k) ∧ (∀ k, k < 28 → cs k = ms k) ∧ (∀ k, 4 * N ≤ k → k < 28 → ms k = 0) ∧ (∀ k, k < 4 → ch k = mh k)
def RN (N nb : Nat) (h h' w w' m m' l l' : Int32) : Prop := m = m' ∧ l = l' ∧ ∃ H W : Nat, H ≤ 6 ∧ h = nI H ∧ h' = nI H ∧ W < 2 ^ N ∧ W &&& nb = 0 ∧ w = nI W ∧ w' = nI W
def RI (N nb : Nat) (z z' h h' w w' m m' l l' : Int32) (cs ms ch mh : Nat → Int32) : Prop := (z = -1 ∧ h' = -1) ∨ (m = m' ∧ l = l' ∧ (∀ k, k < 28 → cs k = ms k) ∧ (∀ k, k < 4 → ch k = mh k) ∧ ∃ K H W : Nat, K ≤ N ∧ z = nI K ∧ z' = nI K ∧ H ≤ 6 ∧ h = nI H ∧ h' = nI H ∧ w = nI W ∧ w' = nI W ∧ (K = N → W < 2 ^ N ∧ W &&& nb = 0 ∧ ∀ k, 4 * N ≤ k → k < 28 → ms k = 0))
def R (ω : Om) : Prop := ∃ N nb : Nat, RP (ω.1 1 1) (ω.1 29 1) (ω.1 2) (ω.1 30) ∧ RB (ω.1 7 1) (ω.1 29 3) (ω.1 8) (ω.1 31) ∧ RR (ω.1 9 1) (ω.1 29 9) (ω.1 10) (ω.1 33) (ω.1 9 2) (ω.1 29 10) ∧ RH N nb (ω.1 11 4) (ω.1 29 15) (ω.1 11 5) (ω.1 12) (ω.1 35) (ω.1 13) (ω.1 36) (ω.1 14) (ω.1 37) (ω.1 15) (ω.1 38) ∧ RN N nb (ω.1 16 0) (ω.1 29 16) (ω.1 16 1) (ω.1 29 17) (ω.1 16 2) (ω.1 29 18) (ω.1 16 3) (ω.1 29 19) ∧ RI N nb (ω.1 17 2) (ω.1 29 31) (ω.1 17 3) (ω.1 29 30) (ω.1 17 4) (ω.1 29 32) (ω.1 17 5) (ω.1 29 33) (ω.1 17 6) (ω.1 29 34) (ω.1 18) (ω.1 45) (ω.1 19) (ω.1 44)
theorem R.sc {ω0 ω : Om} (h : R ω0) (hs : Sc ω0 ω) : R ω := by
  have e : ∀ i, (∀ k, isS i k = true) → ω.1 i = ω0.1 i := fun i hi => funext fun k => hs i k (hi k)
  unfold R
  rw [hs 1 1 rfl, hs 29 1 rfl, e 2 (fun _ => rfl), e 30 (fun _ => rfl), hs 7 1 rfl, hs 29 3 rfl, e 8 (fun _ => rfl), e 31 (fun _ => rfl), hs 9 1 rfl, hs 29 9 rfl, e 10 (fun _ => rfl), e 33 (fun _ => rfl), hs 9 2 rfl, hs 29 10 rfl, hs 11 4 rfl, hs 29 15 rfl, hs 11 5 rfl, e 12 (fun _ => rfl), e 35 (fun _ => rfl), e 13 (fun _ => rfl), e 36 (fun _ => rfl), e 14 (fun _ => rfl), e 37 (fun _ => rfl), e 15 (fun _ => rfl), e 38 (fun _ => rfl), hs 16 0 rfl, hs 29 16 rfl, hs 16 1 rfl, hs 29 17 rfl, hs 16 2 rfl, hs 29 18 rfl, hs 16 3 rfl, hs 29 19 rfl, hs 17 2 rfl, hs 29 31 rfl, hs 17 3 rfl, hs 29 30 rfl, hs 17 4 rfl, hs 29 32 rfl, hs 17 5 rfl, hs 29 33 rfl, hs 17 6 rfl, hs 29 34 rfl, e 18 (fun _ => rfl), e 45 (fun _ => rfl), e 19 (fun _ => rfl), e 44 (fun _ => rfl)]
  exact h
theorem pow7 {N : Nat} (h : N ≤ 7) : 2 ^ N ≤ 128 := Nat.le_trans (Nat.pow_le_pow_right (by decide) h) (by decide)
theorem R.mi {ω : Om} (h : R ω) : Mi ω := by
  obtain ⟨N, nb, ⟨L, hL, -, e1, -⟩, -, ⟨-, m, hm, -, e2, e3⟩, ⟨hN, -, e4, -⟩, ⟨-, -, H, W, hH, -, e5, hW, -, -, e6⟩, -⟩ := h
  exact ⟨⟨N, hN, e4⟩, ⟨H, hH, e5⟩, ⟨W, Nat.lt_of_lt_of_le hW (pow7 hN), e6⟩, ⟨m, hm, e2, fun k hk => (e3 k hk).2⟩, ⟨L, hL, e1⟩⟩
/-- a pair of calls that answer alike -/
def Pr (y : Nat) (a : List Value) (z : Nat) (b : List Value) (ω : Om) : Prop := ∀ Q : Int32 → Int32 → Om → Prop, (∀ v ω', R ω' → Q v v ω') → me_CtI y a ω (fun v ω1 => me_CtI z b ω1 (fun u ω2 => Q v u ω2))
/-- a pair of calls that come to their ends -/
def Pq (y : Nat) (a : List Value) (z : Nat) (b : List Value) (ω : Om) : Prop := ∀ Q : Int32 → Int32 → Om → Prop, (∀ v u ω', R ω' → Q v u ω') → me_CtI y a ω (fun v ω1 => me_CtI z b ω1 (fun u ω2 => Q v u ω2))
def PqL (y : Nat) (a : List Value) (z : Nat) (b : List Value) (ω : Om) : Prop := ∀ Q : Int64 → Int64 → Om → Prop, (∀ v u ω', R ω' → Q v u ω') → me_CtJ y a ω (fun v ω1 => me_CtJ z b ω1 (fun u ω2 => Q v u ω2))
theorem Pr.q {y : Nat} {a : List Value} {z : Nat} {b : List Value} {ω : Om} (h : Pr y a z b ω) : Pq y a z b ω := fun Q hQ => h Q (fun v ω' h' => hQ v v ω' h')
/-! the questions -/
theorem q_73 {ω : Om} (hR : R ω) (a b : Int32) : Pq 73 [.ref 0, .int a, .int b] 142 [.ref 29, .int a, .int b] ω := fun _ hQ => s_73 (Sc.o ω) (fun _ _ h1 => m_142 (Mi.sc hR.mi h1) (fun _ => hQ _ _ _ (hR.sc h1)))
theorem q_77 {ω : Om} (hR : R ω) (a : Int32) : PqL 77 [.ref 0, .int a] 155 [.ref 29, .int a] ω := fun _ hQ => s_77 (Sc.o ω) (fun _ _ h1 => m_155 hR.mi h1 (fun _ _ h2 => hQ _ _ _ (hR.sc h2)))
theorem q_78 {ω : Om} (hR : R ω) (a : Int32) : Pq 78 [.ref 0, .int a] 156 [.ref 29, .int a] ω := fun _ hQ => s_78 (Sc.o ω) (fun _ _ h1 => m_156 hR.mi h1 (fun _ _ h2 => hQ _ _ _ (hR.sc h2)))
theorem q_79 {ω : Om} (hR : R ω) : Pq 79 [.ref 0] 158 [.ref 29] ω := fun _ hQ => s_79 (Sc.o ω) (fun _ _ h1 => m_158 hR.mi h1 (fun _ _ h2 => hQ _ _ _ (hR.sc h2)))
theorem q_80 {ω : Om} (hR : R ω) (a : Int32) : Pq 80 [.ref 0, .int a] 162 [.ref 29, .int a] ω := fun _ hQ => s_80 (Sc.o ω) (fun _ _ h1 => m_162 hR.mi h1 (fun _ _ h2 => hQ _ _ _ (hR.sc h2)))
theorem q_81 {ω : Om} (hR : R ω) (a : Int32) : PqL 81 [.ref 0, .int a] 165 [.ref 29, .int a] ω := fun _ hQ => s_81 (Sc.o ω) (fun _ _ h1 => m_165 hR.mi h1 (fun _ _ h2 => hQ _ _ _ (hR.sc h2)))
theorem q_82 {ω : Om} (hR : R ω) (a b : Int32) : PqL 82 [.ref 0, .int a, .int b] 166 [.ref 29, .int a, .int b] ω := fun _ hQ => s_82 (Sc.o ω) (fun _ _ h1 => m_166 hR.mi h1 (fun _ _ h2 => hQ _ _ _ (hR.sc h2)))
theorem q_83 {ω : Om} (hR : R ω) (a : Int32) : Pq 83 [.ref 0, .int a] 168 [.ref 29, .int a] ω := fun _ hQ => s_83 (Sc.o ω) (fun _ _ h1 => m_168 hR.mi h1 (fun _ _ h2 => hQ _ _ _ (hR.sc h2)))
theorem q_84 {ω : Om} (hR : R ω) (a : Int32) : Pq 84 [.ref 0, .int a] 172 [.ref 29, .int a] ω := fun _ hQ => s_84 (Sc.o ω) (fun _ _ h1 => m_172 hR.mi h1 (fun _ _ h2 => hQ _ _ _ (hR.sc h2)))
theorem q_85 {ω : Om} (hR : R ω) (a b : Int32) : Pq 85 [.ref 0, .int a, .int b] 173 [.ref 29, .int a, .int b] ω := fun _ hQ => s_85 (Sc.o ω) (fun _ _ h1 => m_173 hR.mi h1 (fun _ _ h2 => hQ _ _ _ (hR.sc h2)))
theorem q_86 {ω : Om} (hR : R ω) (a b : Int32) : Pq 86 [.ref 0, .int a, .int b] 176 [.ref 29, .int a, .int b] ω := fun _ hQ => s_86 (Sc.o ω) (fun _ _ h1 => m_176 hR.mi h1 (fun _ _ h2 => hQ _ _ _ (hR.sc h2)))
theorem q_90 {ω : Om} (hR : R ω) : PqL 90 [.ref 0] 183 [.ref 29] ω := fun _ hQ => s_90 (Sc.o ω) (fun _ _ h1 => m_183 hR.mi h1 (fun _ _ h2 => hQ _ _ _ (hR.sc h2)))
/-! worlds -/
theorem ui_ur {ω : Om} {i k : Nat} {g : Nat → Int32} {v : Int32} : ui (ur ω i g) i k v = ur ω i (upd g k v) := by
  refine Prod.ext (funext fun a => ?_) rfl
  show (if a = i then upd (if i = i then g else ω.1 i) k v else if a = i then g else ω.1 a) = if a = i then upd g k v else ω.1 a
  by_cases e : a = i
  · rw [if_pos e, if_pos e, if_pos rfl]
  · rw [if_neg e, if_neg e, if_neg e]
theorem ur_self {ω : Om} (i : Nat) : ur ω i (ω.1 i) = ω := by
  refine Prod.ext (funext fun a => ?_) rfl
  show (if a = i then ω.1 i else ω.1 a) = ω.1 a
  by_cases e : a = i
  · rw [if_pos e, e]
  · rw [if_neg e]
theorem upd_ext {f g : Nat → Int32} {n k : Nat} {v : Int32} (h : ∀ j, j < n → f j = g j) : ∀ j, j < n → upd f k v j = upd g k v j := by
  intro j hj
  unfold upd
  by_cases e : j = k
  · rw [if_pos e, if_pos e]
  · rw [if_neg e, if_neg e]; exact h j hj
