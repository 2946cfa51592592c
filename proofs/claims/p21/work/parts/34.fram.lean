/-! LONGS AS WHOLE NUMBERS, FRAMES -/
theorem jI_add (a b : Int) : jI a + jI b = jI (a + b) := (Int64.ofInt_add a b).symm
theorem jI_mul (a b : Int) : jI a * jI b = jI (a * b) := (Int64.ofInt_mul a b).symm
theorem jI_sub (a b : Int) : jI a - jI b = jI (a - b) := (Int64.ofInt_sub a b).symm
theorem jI_neg (a : Int) : -jI a = jI (-a) := (Int64.ofInt_neg a).symm
def Bd (z : Int) : Prop := -1000000000000000 < z ∧ z < 1000000000000000
theorem jI_toInt {z : Int} (h : Bd z) : (jI z).toInt = z := by
  obtain ⟨h1, h2⟩ := h
  exact Int64.toInt_ofInt_of_le (by omega) (by omega)
theorem jI_lt {a b : Int} (ha : Bd a) (hb : Bd b) : jI a < jI b ↔ a < b := by
  rw [Int64.lt_iff_toInt_lt, jI_toInt ha, jI_toInt hb]
theorem jI_cle {a b : Int} (ha : Bd a) (hb : Bd b) : lg_cmp (jI a) (jI b) ≤ 0 ↔ a ≤ b := by
  have h := @lc_gt (jI a) (jI b)
  rw [jI_lt hb ha] at h
  rw [Int32.lt_iff_toInt_lt, Int32.toInt_zero] at h
  rw [Int32.le_iff_toInt_le, Int32.toInt_zero]
  constructor
  · intro q
    by_cases c : a ≤ b
    · exact c
    · have := h.mpr (by omega)
      omega
  · intro q
    by_cases c : (lg_cmp (jI a) (jI b)).toInt ≤ 0
    · exact c
    · have := h.mp (by omega)
      omega
theorem nI_J {n : Nat} (h : n < 2 ^ 31) : (nI n).toInt64 = jI (n : Int) := by
  refine Int64.toInt_inj.mp ?_
  rw [Int32.toInt_toInt64, nI_toInt h, jI_toInt ⟨by omega, by omega⟩]
theorem jI_N (n : Nat) : (jI (n : Int)).toInt32 = nI n := by
  unfold jI nI
  rw [Int64.toInt32_ofInt, Int32.ofInt_eq_ofNat]
theorem jI_0 : jI 0 = 0 := rfl
theorem jI_1 : jI 1 = 1 := rfl
/-! frames: only these rows may have changed -/
def Fr (A B : List Nat) (ω0 ω : Om) : Prop := (∀ i, A.contains i = false → ω.1 i = ω0.1 i) ∧ (∀ i, B.contains i = false → ω.2 i = ω0.2 i)
theorem Fr.o (A B : List Nat) (ω : Om) : Fr A B ω ω := ⟨fun _ _ => rfl, fun _ _ => rfl⟩
theorem Fr.trans {A B : List Nat} {a b c : Om} (h : Fr A B a b) (h2 : Fr A B b c) : Fr A B a c := ⟨fun i hi => (h2.1 i hi).trans (h.1 i hi), fun i hi => (h2.2 i hi).trans (h.2 i hi)⟩
theorem Fr.ui {A B : List Nat} {ω0 ω : Om} {i k : Nat} {v : Int32} (h : Fr A B ω0 ω) (hi : A.contains i = true) : Fr A B ω0 (ui ω i k v) := by
  refine ⟨fun j hj => ?_, h.2⟩
  show (if j = i then upd (ω.1 i) k v else ω.1 j) = _
  by_cases e : j = i
  · rw [e, hi] at hj; cases hj
  · rw [if_neg e]; exact h.1 j hj
theorem Fr.ul {A B : List Nat} {ω0 ω : Om} {i k : Nat} {v : Int64} (h : Fr A B ω0 ω) (hi : B.contains i = true) : Fr A B ω0 (ul ω i k v) := by
  refine ⟨h.1, fun j hj => ?_⟩
  show (if j = i then vp_updL (ω.2 i) k v else ω.2 j) = _
  by_cases e : j = i
  · rw [e, hi] at hj; cases hj
  · rw [if_neg e]; exact h.2 j hj
theorem Fr.sub {A B A' B' : List Nat} {ω0 ω : Om} (h : Fr A B ω0 ω) (hA : ∀ i ∈ A, A'.contains i = true) (hB : ∀ i ∈ B, B'.contains i = true) : Fr A' B' ω0 ω := by
  refine ⟨fun i hi => h.1 i ?_, fun i hi => h.2 i ?_⟩
  · cases c : A.contains i
    · rfl
    · rw [hA i (List.contains_iff_mem.mp c)] at hi; cases hi
  · cases c : B.contains i
    · rfl
    · rw [hB i (List.contains_iff_mem.mp c)] at hi; cases hi
theorem Fr.sc {A B : List Nat} {ω0 ω : Om} (h : Fr A B ω0 ω) (hA : ∀ i ∈ A, ∀ k, isS i k = false) (hB : B.contains 26 = false := by rfl) : Sc ω0 ω := by
  refine ⟨fun i k hk => ?_, h.2 26 hB⟩
  rw [h.1 i ?_]
  cases c : A.contains i
  · rfl
  · rw [hA i (List.contains_iff_mem.mp c) k] at hk; cases hk
theorem ui_s {ω : Om} {i k : Nat} {v : Int32} : (ui ω i k v).1 i k = v := by
  show (if i = i then upd (ω.1 i) k v else ω.1 i) k = v
  rw [if_pos rfl]; exact pk_us
theorem ui_n {ω : Om} {i k j : Nat} {v : Int32} (h : j ≠ k) : (ui ω i k v).1 i j = ω.1 i j := by
  show (if i = i then upd (ω.1 i) k v else ω.1 i) j = _
  rw [if_pos rfl]; exact pk_un h
theorem ul_s {ω : Om} {i k : Nat} {v : Int64} : (ul ω i k v).2 i k = v := by
  show (if i = i then vp_updL (ω.2 i) k v else ω.2 i) k = v
  rw [if_pos rfl]; exact pk_uLs
theorem ul_n {ω : Om} {i k j : Nat} {v : Int64} (h : j ≠ k) : (ul ω i k v).2 i j = ω.2 i j := by
  show (if i = i then vp_updL (ω.2 i) k v else ω.2 i) j = _
  rw [if_pos rfl]; exact pk_uLn h
theorem ui_ui {ω : Om} {i k : Nat} {v v' : Int32} : ui (ui ω i k v) i k v' = ui ω i k v' := by
  refine Prod.ext (funext fun a => ?_) rfl
  show (if a = i then upd (if i = i then upd (ω.1 i) k v else ω.1 i) k v' else if a = i then upd (ω.1 i) k v else ω.1 a) = if a = i then upd (ω.1 i) k v' else ω.1 a
  by_cases e : a = i
  · rw [if_pos e, if_pos e, if_pos rfl]
    funext b
    unfold upd
    by_cases e2 : b = k
    · rw [if_pos e2, if_pos e2]
    · rw [if_neg e2, if_neg e2, if_neg e2]
  · rw [if_neg e, if_neg e, if_neg e]
/-! the house, as numbers -/
def HP (N nb : Nat) (kd : Nat → Int32) (sk hm : Nat → Nat) : Prop := N ≤ 7 ∧ nb < 2 ^ N ∧ (∀ s, s < N → (nb.testBit s = true ↔ kd s = 1)) ∧ (∀ k, k < 28 → sk k < 100) ∧ (∀ t, t < 4 → hm t < 100)
def HC (N nb : Nat) (kd : Nat → Int32) (sk hm : Nat → Nat) (ω : Om) : Prop := ω.1 11 4 = nI N ∧ ω.1 11 5 = nI nb ∧ (∀ s, s < 7 → ω.1 12 s = kd s) ∧ (∀ k, k < 28 → ω.1 14 k = nI (sk k)) ∧ (∀ t, t < 4 → ω.1 15 t = nI (hm t))
def HM (N : Nat) (kd : Nat → Int32) (sk hm : Nat → Nat) (ω : Om) : Prop := ω.1 29 15 = nI N ∧ (∀ s, s < 7 → ω.1 35 s = kd s) ∧ (∀ k, k < 28 → ω.1 37 k = nI (sk k)) ∧ (∀ t, t < 4 → ω.1 38 t = nI (hm t))
theorem HC.fr {N nb : Nat} {kd : Nat → Int32} {sk hm : Nat → Nat} {A B : List Nat} {ω0 ω : Om} (h : HC N nb kd sk hm ω0) (hf : Fr A B ω0 ω) (hA : A.contains 11 = false ∧ A.contains 12 = false ∧ A.contains 14 = false ∧ A.contains 15 = false) : HC N nb kd sk hm ω := by
  unfold HC
  rw [hf.1 11 hA.1, hf.1 12 hA.2.1, hf.1 14 hA.2.2.1, hf.1 15 hA.2.2.2]
  exact h
theorem HM.fr {N : Nat} {kd : Nat → Int32} {sk hm : Nat → Nat} {A B : List Nat} {ω0 ω : Om} (h : HM N kd sk hm ω0) (hf : Fr A B ω0 ω) (hA : A.contains 29 = false ∧ A.contains 35 = false ∧ A.contains 37 = false ∧ A.contains 38 = false) : HM N kd sk hm ω := by
  unfold HM
  rw [hf.1 29 hA.1, hf.1 35 hA.2.1, hf.1 37 hA.2.2.1, hf.1 38 hA.2.2.2]
  exact h
theorem R.hs {ω : Om} (h : R ω) : ∃ (N nb H W : Nat), HP N nb (ω.1 12) (cl (ω.1 14)) (cl (ω.1 15)) ∧ HC N nb (ω.1 12) (cl (ω.1 14)) (cl (ω.1 15)) ω ∧ HM N (ω.1 12) (cl (ω.1 14)) (cl (ω.1 15)) ω ∧ H ≤ 6 ∧ W < 2 ^ N ∧ W &&& nb = 0 ∧ ω.1 16 0 = nI H ∧ ω.1 29 16 = nI H ∧ ω.1 16 1 = nI W ∧ ω.1 29 17 = nI W ∧ (∀ k, k < 24 → ω.1 8 k = nI (clB (ω.1 8) k)) ∧ (∀ k, k < 24 → ω.1 31 k = nI (clB (ω.1 8) k)) ∧ (∀ h, s4 (clB (ω.1 8)) h ≤ 10) ∧ RY N nb (ω.1 0 11) (ω.2 26) (ω.1 8) (ω.1 12) (ω.1 14) (ω.1 15) := by
  obtain ⟨N, nb, -, ⟨-, b1, x, bx, bs⟩, -, ⟨g1, g2, g3, g4, g5, g6, g7, g8, g9, g10, g11⟩, ⟨-, -, H, W, hH, n3, n4, hW, hWn, n5, n6⟩, -, ⟨x1, x2, -⟩, hY⟩ := h
  have a1 : ∀ k, k < 28 → cl (ω.1 14) k < 100 ∧ ω.1 14 k = nI (cl (ω.1 14) k) := by
    intro k hk
    obtain ⟨v, hv, e⟩ := x1 k hk
    unfold cl
    rw [g9 k hk, e, nI_clamp (by omega)]
    exact ⟨hv, rfl⟩
  have a2 : ∀ k, k < 4 → cl (ω.1 15) k < 100 ∧ ω.1 15 k = nI (cl (ω.1 15) k) := by
    intro k hk
    obtain ⟨v, hv, e⟩ := x2 k hk
    unfold cl
    rw [g11 k hk, e, nI_clamp (by omega)]
    exact ⟨hv, rfl⟩
  have xl : ∀ k, x k ≤ 10 := by
    intro k
    have := bs (k / 4)
    unfold s4 at this
    have e : k = 4 * (k / 4) ∨ k = 4 * (k / 4) + 1 ∨ k = 4 * (k / 4) + 2 ∨ k = 4 * (k / 4) + 3 := by omega
    rcases e with e | e | e | e
    · rw [e]; omega
    · rw [e]; omega
    · rw [e]; omega
    · rw [e]; omega
  have a3 : ∀ k, k < 24 → clB (ω.1 8) k = x k := by
    intro k hk
    have := xl k
    unfold clB
    rw [if_pos hk, b1 k hk, bx k hk, nI_clamp (by omega)]
  have a4 : ∀ k, ¬ k < 24 → clB (ω.1 8) k = 0 := fun k hk => if_neg hk
  refine ⟨N, nb, H, W, ⟨g1, g4, fun s hs => (g6 s hs).trans (by rw [g7 s (by omega)]), fun k hk => (a1 k hk).1, fun k hk => (a2 k hk).1⟩, ⟨g2, g5, fun _ _ => rfl, fun k hk => (a1 k hk).2, fun k hk => (a2 k hk).2⟩, ⟨g3, fun s hs => (g7 s hs).symm, fun k hk => (g9 k hk).symm.trans (a1 k hk).2, fun k hk => (g11 k hk).symm.trans (a2 k hk).2⟩, hH, hW, hWn, n3, n4, n5, n6, fun k hk => ?_, fun k hk => ?_, fun h => ?_, hY⟩
  · rw [a3 k hk, b1 k hk, bx k hk]
  · rw [a3 k hk, bx k hk]
  · have := bs h
    unfold s4 at this ⊢
    by_cases c : h < 6
    · rw [a3 _ (by omega), a3 _ (by omega), a3 _ (by omega), a3 _ (by omega)]
      exact this
    · rw [a4 _ (by omega), a4 _ (by omega), a4 _ (by omega), a4 _ (by omega)]
      omega
theorem R.house {ω : Om} (h : R ω) : ∃ (N nb H W : Nat) (kd : Nat → Int32) (sk hm : Nat → Nat), HP N nb kd sk hm ∧ HC N nb kd sk hm ω ∧ HM N kd sk hm ω ∧ H ≤ 6 ∧ W < 2 ^ N ∧ W &&& nb = 0 ∧ ω.1 16 0 = nI H ∧ ω.1 29 16 = nI H ∧ ω.1 16 1 = nI W ∧ ω.1 29 17 = nI W := by
  obtain ⟨N, nb, H, W, a1, a2, a3, a4, a5, a6, a7, a8, a9, a10, -⟩ := h.hs
  exact ⟨N, nb, H, W, _, _, _, a1, a2, a3, a4, a5, a6, a7, a8, a9, a10⟩
theorem mdF_N {k : Int32} {v H : Nat} (hv : v < 100) (hH : H < 6) : mdF k (nI v) H = nI (mdN k v H) := by
  have hd : nI v / 2 = nI (v / 2) := pk_div (d := 2) (by omega) (by decide) (by decide)
  have i9 : ((9 : Int32) < nI v) ↔ 9 < v := nI_ltI (a := 9) (by decide) (by omega)
  have i2 : ((2 : Int32) < nI H) ↔ 2 < H := nI_ltI (a := 2) (by decide) (by omega)
  unfold mdF mdN
  by_cases c1 : k = 1
  · rw [if_pos c1, if_pos c1]
    by_cases c : 9 < v
    · rw [if_pos c, if_pos (i9.mpr c)]; rfl
    · rw [if_neg c, if_neg (fun q => c (i9.mp q))]
  · rw [if_neg c1, if_neg c1]
    by_cases c2 : k = 2
    · rw [if_pos c2, if_pos c2]
      by_cases c : 2 < H
      · rw [if_pos c, if_pos (i2.mpr c)]
      · rw [if_neg c, if_neg (fun q => c (i2.mp q)), hd]
    · rw [if_neg c2, if_neg c2]
      by_cases c4 : k = 4
      · rw [if_pos c4, if_pos c4, hd]
      · rw [if_neg c4, if_neg c4]
theorem mdN_lt {k : Int32} {v H : Nat} (hv : v < 100) : mdN k v H < 100 := by
  unfold mdN
  split
  · split <;> omega
  · split
    · split <;> omega
    · split <;> omega
theorem sm_N {S : Nat} {f : Nat → Int32} {g : Nat → Nat} : ∀ n, (∀ s, s < n → f s = nI (g s)) → sm S f n = nI (smN S g n)
  | 0, _ => rfl
  | n + 1, h => by
    unfold sm smN
    rw [sm_N n (fun s hs => h s (by omega)), h n (by omega)]
    by_cases c : S.testBit n = true
    · rw [if_pos c, if_pos c, nI_add]
    · rw [if_neg c, if_neg c, show (0 : Int32) = nI 0 from rfl, nI_add]
theorem smN_le {S : Nat} {g : Nat → Nat} : ∀ n, (∀ s, s < n → g s < 100) → smN S g n ≤ 100 * n
  | 0, _ => Nat.le_refl _
  | n + 1, h => by
    unfold smN
    have h1 := smN_le (S := S) n (fun s hs => h s (by omega))
    have h2 := h n (by omega)
    split <;> omega
theorem mnd_le (N hv : Nat) (g : Nat → Nat) (S : Nat) : mnd N hv g S ≤ hv := by
  unfold mnd
  split <;> omega
theorem t146N {N nb : Nat} {kd : Nat → Int32} {sk hm : Nat → Nat} {ω : Om} (hp : HP N nb kd sk hm) (hc : HM N kd sk hm ω) {S t H : Nat} (hS : S < 128) (ht : t < 4) (hH : H < 6) {Q : Int32 → Om → Prop} (q : Q (nI (mnd N (hm t) (gM kd sk t H) S)) ω) : me_CtI 146 [.ref 29, .int (nI S), .int (nI t), .int (nI H)] ω Q := by
  obtain ⟨hN, -, -, p4, p5⟩ := hp
  obtain ⟨c1, c2, c3, c4⟩ := hc
  have e : sm S (fun s => mdF (ω.1 35 s) (ω.1 37 (s * 4 + t)) H) N = nI (smN S (gM kd sk t H) N) := sm_N N (fun s hs => by
    show mdF (ω.1 35 s) (ω.1 37 (s * 4 + t)) H = _
    rw [c2 s (by omega), c3 _ (by omega), mdF_N (p4 _ (by omega)) hH]
    rfl)
  have hb : smN S (gM kd sk t H) N ≤ 100 * N := smN_le N (fun s hs => mdN_lt (p4 _ (by omega)))
  have h5 := p5 t ht
  refine t146 hN c1 hS ht hH ?_
  rw [e, c4 t ht]
  unfold mnd at q
  by_cases c : hm t < smN S (gM kd sk t H) N
  · rw [if_pos c] at q
    rw [if_pos (nI_lt c (by omega))]
    exact q
  · rw [if_neg c] at q
    rw [if_neg (fun z => c ((nI_ltI (by omega) (by omega)).mp z))]
    exact q
