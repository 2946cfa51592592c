/-! ROWS OF THE TABLE, set by set (work: cell 28) -/
theorem t61w {ω : Om} {h : Nat} (hh : h ≤ 6) {Q : Om → Prop} (q : ∀ ω', Fr [] [28] ω ω' → (∀ A, A < 128 → ω'.2 28 (h * 128 + A) = 0) → (∀ i, (i < h * 128 ∨ h * 128 + 128 ≤ i) → ω'.2 28 i = ω.2 28 i) → Q ω') : me_CtV 61 [.ref 27, .int (nI h)] ω Q := by
  have key : ∀ n j ω', j + n = 128 → Fr [] [28] ω ω' → (∀ A, A < j → ω'.2 28 (h * 128 + A) = 0) → (∀ i, (i < h * 128 ∨ h * 128 + 128 ≤ i) → ω'.2 28 i = ω.2 28 i) → me_W 61 2 [some (.ref 27), some (.int (nI h)), some (.int (nI j))] [] ω' (fun r ω' => r = none ∧ Q ω') := by
    intro n
    induction n with
    | zero =>
      intro j ω' hj hF h1 h2
      obtain rfl : j = 128 := by omega
      exact vl_61w_2 ω' _ _ (br_t (by decide) ⟨rfl, q ω' hF h1 h2⟩)
    | succ n ih =>
      intro j ω' hj hF h1 h2
      refine vl_61w_2 ω' _ _ (br_f (nI_ge (b := 128) (by omega) (by decide)) (t59w hh (by omega) ?_))
      rw [nI_1]
      refine ih (j + 1) _ (by omega) (Fr.ul hF rfl) (fun A hA => ?_) (fun i hi => ?_)
      · by_cases e : A = j
        · subst e; exact ul_s
        · rw [ul_n (by omega)]; exact h1 A (by omega)
      · rw [ul_n (by omega)]; exact h2 i hi
  exact vc_61w ω _ (key 128 0 ω (by omega) (Fr.o _ _ ω) (fun A hA => absurd hA (by omega)) (fun _ _ => rfl))
/-- is a set the last of all? -/
theorem set_end {ω : Om} {N : Nat} (hN : N ≤ 7) (e : ω.1 11 4 = nI N) {X : Int32 → Om → Prop} (h : X (nI (2 ^ N - 1)) ω) : me_CtI 28 [.ref 11] ω X := t28 hN e h
theorem p2_pos (N : Nat) : 0 < 2 ^ N := Nat.pow_pos (by decide)
/-- nothing comes: the row is the next one's -/
theorem t112 {ω : Om} {N h : Nat} {f : Nat → Int} (hN : N ≤ 7) (e : ω.1 11 4 = nI N) (hh : h < 6) (hr : Rw 28 ω (h + 1) N f) {Q : Om → Prop} (q : ∀ ω', Fr [] [28] ω ω' → Rw 28 ω' h N f → Rw 28 ω' (h + 1) N f → Q ω') : me_CtV 112 [.ref 0, .int (nI h)] ω Q := by
  have h7 := pow7 hN
  have hp := p2_pos N
  have key : ∀ n j ω', j + n = 2 ^ N → Fr [] [28] ω ω' → (∀ A, A < j → ω'.2 28 (h * 128 + A) = jI (f A)) → Rw 28 ω' (h + 1) N f → me_W 112 2 [some (.ref 0), some (.int (nI h)), some (.int (nI j))] [] ω' (fun r ω' => r = none ∧ Q ω') := by
    intro n
    induction n with
    | zero =>
      intro j ω' hj hF h1 h2
      obtain rfl : j = 2 ^ N := by omega
      refine vl_112_2 ω' _ _ (t28 hN (by rw [hF.1 11 rfl]; exact e) (br_t (nI_lt (by omega) (by omega)) ⟨rfl, q ω' hF h1 h2⟩))
    | succ n ih =>
      intro j ω' hj hF h1 h2
      refine vl_112_2 ω' _ _ (t28 hN (by rw [hF.1 11 rfl]; exact e) (br_f (nI_nlt (by omega) (by omega)) (br_f (nI_ge (b := 128) (by omega) (by decide)) ?_)))
      rw [nI_1, nI_1]
      refine t58w (by omega) (by omega) (t59w (by omega) (by omega) ?_)
      rw [h2 j (by omega)]
      refine ih (j + 1) _ (by omega) (Fr.ul hF rfl) (fun A hA => ?_) (fun A hA => ?_)
      · by_cases z : A = j
        · subst z; exact ul_s
        · rw [ul_n (by omega)]; exact h1 A (by omega)
      · rw [ul_n (by omega)]; exact h2 A hA
  exact vc_112 ω _ (key (2 ^ N) 0 ω (by omega) (Fr.o _ _ ω) (fun A hA => absurd hA (by omega)) hr)
theorem t113 {ω : Om} {N nb : Nat} {kd : Nat → Int32} {sk hm : Nat → Nat} (hp : HP N nb kd sk hm) (hc : HC N nb kd sk hm ω) {h t : Nat} {f : Nat → Int} (hh : h < 6) (ht : t < 4) (hr : Rw 28 ω (h + 1) N f) (hb : Bf N f) (hf : Mnt N f) {Q : Om → Prop} (q : ∀ ω', Fr [20, 21, 22, 24] [23, 28] ω ω' → Rw 28 ω' h N (mxA N nb kd sk hm 1 f h t) → Rw 28 ω' (h + 1) N f → Q ω') : me_CtV 113 [.ref 0, .int (nI h), .int (nI t)] ω Q := by
  obtain ⟨hN, hnb, hk, hsk, hhm⟩ := id hp
  have h7 := pow7 hN
  have hp2 := p2_pos N
  refine vc_113 ω _ _ (t14 hp hc hh ht (fun ω1 hF1 n L hn hG hI => ?_))
  have hF1' : Fr [20, 21, 22, 24] [23, 28] ω ω1 := hF1.sub (by decide) (by decide)
  have key : ∀ k j ω', j + k = 2 ^ N → Fr [20, 21, 22, 24] [23, 28] ω ω' → Gf nb (mnd N (hm t) (gM kd sk t h)) ω' n L → (∀ A, A < j → ω'.2 28 (h * 128 + A) = jI (mxA N nb kd sk hm 1 f h t A)) → Rw 28 ω' (h + 1) N f → me_W 113 15 [some (.ref 0), some (.int (nI h)), none, some (.int (nI j))] [] ω' (fun r ω' => r = none ∧ Q ω') := by
    intro k
    induction k with
    | zero =>
      intro j ω' hj hF hG h1 h2
      obtain rfl : j = 2 ^ N := by omega
      exact vl_113_15 ω' _ _ (t28 hN (by rw [hF.1 11 rfl]; exact hc.1) (br_t (nI_lt (by omega) (by omega)) ⟨rfl, q ω' hF h1 h2⟩))
    | succ k ih =>
      intro j ω' hj hF hG h1 h2
      refine vl_113_15 ω' _ _ (t28 hN (by rw [hF.1 11 rfl]; exact hc.1) (br_f (nI_nlt (by omega) (by omega)) (br_f (nI_ge (b := 128) (by omega) (by decide)) ?_)))
      rw [nI_1, nI_1]
      refine u16w (u := 1) (f := f) hp ht (by omega) (by omega) (by decide) (by decide) hn hG hI h2 hb hf (fun p _ => t59w (by omega) (by omega) ?_)
      refine ih (j + 1) _ (by omega) (Fr.ul (Fr.ui hF rfl) rfl) hG (fun A hA => ?_) (fun A hA => ?_)
      · by_cases z : A = j
        · subst z; exact ul_s
        · rw [ul_n (by omega)]; exact h1 A (by omega)
      · rw [ul_n (by omega)]; exact h2 A hA
  exact key (2 ^ N) 0 ω1 (by omega) hF1' hG (fun A hA => absurd hA (by omega)) (hr.fr hF1 rfl)
/-- a thing may come: the least of what it leaves -/
def mnZ (a b : Int) : Int := if a < b then a else b
theorem t114 {ω : Om} {N nb : Nat} {kd : Nat → Int32} {sk hm : Nat → Nat} (hp : HP N nb kd sk hm) (hc : HC N nb kd sk hm ω) {h t : Nat} {f f0 : Nat → Int} (hh : h < 6) (ht : t < 4) (hr : Rw 28 ω (h + 1) N f) (hr0 : Rw 28 ω h N f0) (hb : Bf N f) (hb0 : Bf N f0) (hbm : Bf N (mxA N nb kd sk hm 1 f h t)) (hf : Mnt N f) {Q : Om → Prop} (q : ∀ ω', Fr [20, 21, 22, 24] [23, 28] ω ω' → Rw 28 ω' h N (fun A => mnZ (f0 A) (mxA N nb kd sk hm 1 f h t A - hm t)) → Rw 28 ω' (h + 1) N f → Q ω') : me_CtV 114 [.ref 0, .int (nI h), .int (nI t)] ω Q := by
  obtain ⟨hN, hnb, hk, hsk, hhm⟩ := id hp
  have h7 := pow7 hN
  have hp2 := p2_pos N
  have ht1 := hhm t ht
  refine vc_114 ω _ _ (t26 (fun b hb4 e => ?_) (fun z => absurd (vp_in_nI ht (by decide)) z))
  obtain rfl : t = b := (nI_eq (by omega) (by omega)).mp e
  rw [hc.2.2.2.2 t ht]
  refine t14 hp hc hh ht (fun ω1 hF1 n L hn hG hI => ?_)
  have hF1' : Fr [20, 21, 22, 24] [23, 28] ω ω1 := hF1.sub (by decide) (by decide)
  have key : ∀ k j ω', j + k = 2 ^ N → Fr [20, 21, 22, 24] [23, 28] ω ω' → Gf nb (mnd N (hm t) (gM kd sk t h)) ω' n L → (∀ A, A < j → ω'.2 28 (h * 128 + A) = jI (mnZ (f0 A) (mxA N nb kd sk hm 1 f h t A - hm t))) → (∀ A, j ≤ A → A < 2 ^ N → ω'.2 28 (h * 128 + A) = jI (f0 A)) → Rw 28 ω' (h + 1) N f → me_W 114 25 [some (.ref 0), some (.int (nI h)), none, some (.int (nI (hm t))), some (.int (nI j)), none, none] [] ω' (fun r ω' => r = none ∧ Q ω') := by
    intro k
    induction k with
    | zero =>
      intro j ω' hj hF hG h1 h0 h2
      obtain rfl : j = 2 ^ N := by omega
      exact vl_114_25 ω' _ _ _ (t28 hN (by rw [hF.1 11 rfl]; exact hc.1) (br_t (nI_lt (by omega) (by omega)) ⟨rfl, q ω' hF h1 h2⟩))
    | succ k ih =>
      intro j ω' hj hF hG h1 h0 h2
      refine vl_114_25 ω' _ _ _ (t28 hN (by rw [hF.1 11 rfl]; exact hc.1) (br_f (nI_nlt (by omega) (by omega)) (br_f (nI_ge (b := 128) (by omega) (by decide)) ?_)))
      rw [nI_1, nI_1]
      refine u16w (u := 1) (f := f) hp ht (by omega) (by omega) (by decide) (by decide) hn hG hI h2 hb hf (fun p _ => t58w (by omega) (by omega) ?_)
      have er : (ui ω' 20 5 (nI p)).2 28 (h * 128 + j) = jI (f0 j) := h0 j (Nat.le_refl _) (by omega)
      have b0 := hb0 j (by omega)
      have b1 := hbm j (by omega)
      have em : (if jI (f0 j) < jI (mxU (Alw kd h j) (vA N nb (hm t) (gM kd sk t h) 1 f j) (2 ^ N)) - (nI (hm t)).toInt64 then jI (f0 j) else jI (mxU (Alw kd h j) (vA N nb (hm t) (gM kd sk t h) 1 f j) (2 ^ N)) - (nI (hm t)).toInt64) = jI (mnZ (f0 j) (mxA N nb kd sk hm 1 f h t j - hm t)) := by
        show (if jI (f0 j) < jI (mxA N nb kd sk hm 1 f h t j) - (nI (hm t)).toInt64 then jI (f0 j) else jI (mxA N nb kd sk hm 1 f h t j) - (nI (hm t)).toInt64) = _
        rw [nI_J (by omega), jI_sub]
        unfold mnZ
        by_cases c : f0 j < mxA N nb kd sk hm 1 f h t j - hm t
        · rw [if_pos c, if_pos ((jI_lt ⟨by omega, by omega⟩ ⟨by omega, by omega⟩).mpr c)]
        · rw [if_neg c, if_neg (fun z => c ((jI_lt ⟨by omega, by omega⟩ ⟨by omega, by omega⟩).mp z))]
      rw [er, em]
      refine t59w (by omega) (by omega) ?_
      refine ih (j + 1) _ (by omega) (Fr.ul (Fr.ui hF rfl) rfl) hG (fun A hA => ?_) (fun A hA hA2 => ?_) (fun A hA => ?_)
      · by_cases z : A = j
        · subst z; exact ul_s
        · rw [ul_n (by omega)]; exact h1 A (by omega)
      · rw [ul_n (by omega)]; exact h0 A (by omega) hA2
      · rw [ul_n (by omega)]; exact h2 A hA
  exact key (2 ^ N) 0 ω1 (by omega) hF1' hG (fun A hA => absurd hA (by omega)) (fun A _ hA => (hr0.fr hF1 rfl) A hA) (hr.fr hF1 rfl)
/-! bounds -/
theorem mxA_bd {N nb : Nat} {kd : Nat → Int32} {sk hm : Nat → Nat} {u lo hi : Int} {f : Nat → Int} {H t A : Nat} (hu : 0 ≤ u) (hm1 : hm t < 100) (hA : A < 2 ^ N) (hb : ∀ B, B < 2 ^ N → lo ≤ f B ∧ f B ≤ hi) : lo ≤ mxA N nb kd sk hm u f H t A ∧ mxA N nb kd sk hm u f H t A ≤ hi + 100 * u := by
  unfold mxA
  have g1 := (mxU_ge (P := Alw kd H A) (V := vA N nb (hm t) (gM kd sk t H) u f A) (2 ^ N)).1
  obtain ⟨S, -, e⟩ := mxU_at (P := Alw kd H A) (V := vA N nb (hm t) (gM kd sk t H) u f A) (2 ^ N)
  have b0 := hb A hA
  have b1 := hb (dif A (dif S nb)) (dif_lt hA)
  have m1 := mnd_le N (hm t) (gM kd sk t H) S
  have m2 : (mnd N (hm t) (gM kd sk t H) S : Int) * u ≤ 100 * u := Int.mul_le_mul_of_nonneg_right (by omega) hu
  have ev0 : vA N nb (hm t) (gM kd sk t H) u f A S = (mnd N (hm t) (gM kd sk t H) S : Int) * u + f (dif A (dif S nb)) := rfl
  rw [vA_0] at g1
  rw [ev0] at e
  omega
/-! figures -/
theorem t96 {ω : Om} {k : Nat} (hk : k < 7) {Q : Int32 → Om → Prop} (q : Q (nI (5 ^ k)) ω) : me_CtI 96 [.int (nI k)] ω Q := by
  refine vc_96 ω (nI k) (br_f (nI_pos (by omega)) (br_f (nI_ge (b := 7) hk (by decide)) ⟨vp_in_nI hk (by decide), _, rfl, ?_⟩))
  rw [nI_clamp (by omega)]
  exact q
theorem five_lt : ∀ k, k < 7 → 0 < 5 ^ k ∧ 5 ^ k < 2 ^ 31 := by decide
theorem t97 {ω : Om} {c k : Nat} (hc : c < 2 ^ 31) (hk : k < 7) {Q : Int32 → Om → Prop} (q : Q (nI (c / 5 ^ k % 5)) ω) : me_CtI 97 [.int (nI c), .int (nI k)] ω Q := by
  have f := five_lt k hk
  have hd : c / 5 ^ k < 2 ^ 31 := Nat.lt_of_le_of_lt (Nat.div_le_self _ _) hc
  refine vc_97 ω (nI c) (nI k) (t96 hk (br_f (nI_nle f.1 f.2) ⟨nI_ne0 f.1 f.2, by decide, _, rfl, ?_⟩))
  rw [pk_div hc f.1 f.2, show (5 : Int32) = nI 5 from rfl, pk_rem hd (by decide) (by decide)]
  exact q
theorem t159 {ω : Om} {c k : Nat} (hc : c < 2 ^ 31) (hk : k < 7) {Q : Int32 → Om → Prop} (q : Q (nI (c / 5 ^ k % 5)) ω) : me_CtI 159 [.int (nI c), .int (nI k)] ω Q := by
  have key : ∀ n j, j + n = k → me_W 159 4 [none, some (.int (nI k)), some (.int (nI (c / 5 ^ j))), some (.int (nI j))] [] ω (fun r ω' => ∃ v : Int32, r = some (.int v) ∧ Q v ω') := by
    intro n
    induction n with
    | zero =>
      intro j hj
      obtain rfl : j = k := by omega
      have hd : c / 5 ^ j < 2 ^ 31 := Nat.lt_of_le_of_lt (Nat.div_le_self _ _) hc
      refine vl_159_4 ω _ _ _ (br_t (Int32.le_refl _) ⟨by decide, _, rfl, ?_⟩)
      rw [show (5 : Int32) = nI 5 from rfl, pk_rem hd (by decide) (by decide)]
      exact q
    | succ n ih =>
      intro j hj
      have hd : c / 5 ^ j < 2 ^ 31 := Nat.lt_of_le_of_lt (Nat.div_le_self _ _) hc
      refine vl_159_4 ω _ _ _ (br_f (nI_ge (by omega) (by omega)) ⟨by decide, ?_⟩)
      have := ih (j + 1) (by omega)
      rw [nI_1, show (5 : Int32) = nI 5 from rfl, pk_div hd (by decide) (by decide), Nat.div_div_eq_div_mul, ← Nat.pow_succ]
      exact this
  have := key k 0 (by omega)
  rw [Nat.pow_zero, Nat.div_one] at this
  exact vc_159 ω _ _ this
theorem t161 {ω : Om} {k : Nat} (hk : k < 7) {Q : Int32 → Om → Prop} (q : Q (nI (5 ^ k)) ω) : me_CtI 161 [.int (nI k)] ω Q := by
  have key : ∀ n j, j + n = k → me_W 161 4 [some (.int (nI k)), some (.int (nI (5 ^ j))), some (.int (nI j))] [] ω (fun r ω' => ∃ v : Int32, r = some (.int v) ∧ Q v ω') := by
    intro n
    induction n with
    | zero =>
      intro j hj
      obtain rfl : j = k := by omega
      exact vl_161_4 ω _ _ _ (br_t (Int32.le_refl _) ⟨_, rfl, q⟩)
    | succ n ih =>
      intro j hj
      refine vl_161_4 ω _ _ _ (br_f (nI_ge (by omega) (by omega)) ?_)
      have := ih (j + 1) (by omega)
      rw [nI_1, show (5 : Int32) = nI 5 from rfl, pk_mul, ← Nat.pow_succ]
      exact this
  exact vc_161 ω _ (key k 0 (by omega))
theorem t104 {ω : Om} {N W : Nat} (hN : N ≤ 7) (e : ω.1 11 4 = nI N) (eW : ω.1 16 1 = nI W) (hW : W < 2 ^ N) {Q : Int32 → Om → Prop} (q : Q (nI (dif (2 ^ N - 1) W)) ω) : me_CtI 104 [.ref 0] ω Q := by
  have h7 := pow7 hN
  have hp := p2_pos N
  refine vc_104 ω (t28 hN e ⟨_, rfl, ?_⟩)
  rw [eW, dif_I (by omega) (by omega)]
  exact q
