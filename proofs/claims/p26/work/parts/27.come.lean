/-! CALLS THAT ANSWER ALIKE: come -/
set_option maxRecDepth 100000 in
theorem bitI0 : ∀ w, w < 128 → ∀ s, s < 7 → (nI w >>> (nI s &&& 31)) &&& (1 : Int32) = if w.testBit s = true then 1 else 0 := by decide
theorem bitI {w s : Nat} (hw : w < 128) (hs : s < 7) : (nI w >>> (nI s &&& 31)) &&& (1 : Int32) = if w.testBit s = true then 1 else 0 := bitI0 w hw s hs
theorem bit_lt {S N s : Nat} (hS : S < 2 ^ N) (h : S.testBit s = true) : s < N := by
  by_cases c : s < N
  · exact c
  · have := Nat.testBit_lt_two_pow (Nat.lt_of_lt_of_le hS (Nat.pow_le_pow_right (by decide) (by omega : N ≤ s)))
    rw [this] at h
    cases h
theorem t28 {ω : Om} {N : Nat} (hN : N ≤ 7) (e : ω.1 11 4 = nI N) {Q : Int32 → Om → Prop} (h : Q (nI (2 ^ N - 1)) ω) : me_CtI 28 [.ref 11] ω Q := by
  have key : ∀ n, n ≤ 7 → nI (2 ^ n) - 1 = nI (2 ^ n - 1) := by decide
  refine vc_28 ω ⟨_, rfl, ?_⟩
  rw [e, sh2 N hN, key N hN]
  exact h
theorem t29 {ω : Om} {N : Nat} (hN : N ≤ 7) (e : ω.1 11 4 = nI N) {p : Int32} {Q : Int32 → Om → Prop} (h1 : vp_in p (2 ^ N) → Q 1 ω) (h0 : ¬ vp_in p (2 ^ N) → Q 0 ω) : me_CtI 29 [.ref 11, .int p] ω Q := by
  have h2 := pow7 hN
  have h3 : 0 < 2 ^ N := Nat.pow_pos (by decide)
  have h4 : 2 ^ N = 2 ^ N - 1 + 1 := by omega
  refine vc_29 ω p ⟨fun c => ⟨Or.inl rfl, _, rfl, h0 (in_no1 c)⟩, fun c => t28 hN e ⟨fun c2 => ⟨Or.inl rfl, _, rfl, h0 ?_⟩, fun c2 => ⟨Or.inr rfl, _, rfl, h1 ?_⟩⟩⟩
  · rw [h4]; exact in_no3 c2 rfl (by omega)
  · rw [h4]; exact in_mkl c c2 rfl (by omega)
/-- whether one may be woken -/
def MW (k : Int32) (b : Bool) (H : Nat) : Prop := b = false ∧ (k = 3 → H < 4)
theorem t33 {ω : Om} {s H W : Nat} (hs : s < 7) (hH : H < 6) (hW : W < 128) (hn : ω.1 12 s = 1 → W.testBit s = false) {Q : Int32 → Om → Prop} (h1 : MW (ω.1 12 s) (W.testBit s) H → Q 1 ω) (h0 : ¬ MW (ω.1 12 s) (W.testBit s) H → Q 0 ω) : me_CtI 33 [.ref 11, .int (nI s), .int (nI H), .int (nI W)] ω Q := by
  refine vc_33 ω (nI s) (nI H) (nI W) (t21 hs ?_)
  rw [bitI hW hs]
  refine ⟨fun c => ⟨Or.inr rfl, _, rfl, h1 ⟨hn c, fun q => absurd (c.symm.trans q) (by decide)⟩⟩, fun c => ⟨fun c2 => ?_, fun c2 => ?_⟩⟩
  · cases hb : W.testBit s
    · refine br_t rfl ⟨fun c3 => ⟨Or.inr rfl, _, rfl, h1 ⟨hb, fun _ => (nI_ltI (b := 4) (by omega) (by decide)).mp c3⟩⟩, fun c3 => br_t (nI_lt (b := 6) hH (by decide)) ⟨Or.inl rfl, _, rfl, h0 (fun q => c3 (nI_lt (b := 4) (q.2 c2) (by decide)))⟩⟩
    · exact br_f (by decide) ⟨Or.inl rfl, _, rfl, h0 (fun q => by rw [hb] at q; cases q.1)⟩
  · cases hb : W.testBit s
    · exact br_t rfl ⟨Or.inr rfl, _, rfl, h1 ⟨hb, fun q => absurd q c2⟩⟩
    · exact br_f (by decide) ⟨Or.inl rfl, _, rfl, h0 (fun q => by rw [hb] at q; cases q.1)⟩
theorem t140 {ω : Om} {s H W : Nat} (hs : s < 7) (hH : H < 6) (hW : W < 128) {Q : Int32 → Om → Prop} (h1 : MW (ω.1 35 s) (W.testBit s) H → Q 1 ω) (h0 : ¬ MW (ω.1 35 s) (W.testBit s) H → Q 0 ω) : me_CtI 140 [.ref 29, .int (nI s), .int (nI H), .int (nI W)] ω Q := by
  refine vc_140 ω (nI s) (nI H) (nI W) ?_
  rw [bitI hW hs, nI_clamp (by omega)]
  cases hb : W.testBit s
  · refine br_t rfl (br_f (nI_ge (b := 6) hH (by decide)) ⟨vp_in_nI hs (by decide), fun c => ⟨fun c2 => ⟨Or.inl rfl, _, rfl, h0 (fun q => ?_)⟩, fun c2 => ⟨Or.inr rfl, _, rfl, h1 ⟨hb, fun _ => ?_⟩⟩⟩, fun c => ⟨Or.inr rfl, _, rfl, h1 ⟨hb, fun q => absurd q c⟩⟩⟩)
    · exact nI_ge (b := 4) (q.2 c) (by decide) c2
    · have : ¬ 4 ≤ H := fun q => c2 (nI_le (a := 4) q (by omega))
      omega
  · exact br_f (by decide) ⟨Or.inl rfl, _, rfl, h0 (fun q => by rw [hb] at q; cases q.1)⟩
/-- whether all of a set may be woken -/
def Al (k : Nat → Int32) (S W H : Nat) : Prop := ∀ s, s < 7 → S.testBit s = true → MW (k s) (W.testBit s) H
theorem t105 {ω : Om} {N S H W : Nat} (hN : N ≤ 7) (hS : S < 2 ^ N) (hH : H < 6) (hW : W < 128) (e1 : ω.1 16 0 = nI H) (e2 : ω.1 16 1 = nI W) (hn : ∀ s, s < N → ω.1 12 s = 1 → W.testBit s = false) {Q : Int32 → Om → Prop} (h1 : Al (ω.1 12) S W H → Q 1 ω) (h0 : ¬ Al (ω.1 12) S W H → Q 0 ω) : me_CtI 105 [.ref 0, .int (nI S)] ω Q := by
  have h2 := pow7 hN
  have key : ∀ n j, j + n = 7 → (∀ s, s < j → S.testBit s = true → MW (ω.1 12 s) (W.testBit s) H) → me_W 105 2 [some (.ref 0), some (.int (nI S)), some (.int (nI j))] [] ω (fun r ω' => ∃ v : Int32, r = some (.int v) ∧ Q v ω') := by
    intro n
    induction n with
    | zero =>
      intro j hj hA
      exact vl_105_2 ω (nI S) (nI j) (br_t (by rw [show j = 7 by omega]; decide) ⟨Or.inr rfl, _, rfl, h1 (fun s hs => hA s (by omega))⟩)
    | succ n ih =>
      intro j hj hA
      refine vl_105_2 ω (nI S) (nI j) (br_f (nI_ge (b := 7) (by omega) (by decide)) ?_)
      rw [bitI (by omega) (by omega), e1, e2, nI_1]
      cases hb : S.testBit j
      · exact br_f (by decide) (ih (j + 1) (by omega) (fun s hs hsb => by
          by_cases q : s = j
          · rw [q, hb] at hsb; cases hsb
          · exact hA s (by omega) hsb))
      · refine br_t rfl (t33 (by omega) hH hW (hn j (bit_lt hS hb)) (fun m => br_f (by decide) (ih (j + 1) (by omega) (fun s hs hsb => ?_))) (fun m => br_t rfl ⟨Or.inl rfl, _, rfl, h0 (fun q => m (q j (by omega) hb))⟩))
        by_cases q : s = j
        · rw [q]; exact m
        · exact hA s (by omega) hsb
  exact vc_105 ω (nI S) (key 7 0 rfl (fun s hs => absurd hs (by omega)))
theorem t145 {ω : Om} {N S H W : Nat} (hN : N ≤ 7) (e : ω.1 29 15 = nI N) (hS : S < 2 ^ N) (hH : H < 6) (hW : W < 128) {Q : Int32 → Om → Prop} (h1 : Al (ω.1 35) S W H → Q 1 ω) (h0 : ¬ Al (ω.1 35) S W H → Q 0 ω) : me_CtI 145 [.ref 29, .int (nI S), .int (nI H), .int (nI W)] ω Q := by
  have h2 := pow7 hN
  have kb : ∀ n j, j + n = N → ¬ Al (ω.1 35) S W H → me_W 145 6 [some (.ref 29), some (.int (nI S)), some (.int (nI H)), some (.int (nI W)), some (.int 0), some (.int (nI j))] [] ω (fun r ω' => ∃ v : Int32, r = some (.int v) ∧ Q v ω') := by
    intro n
    induction n with
    | zero =>
      intro j hj hA
      exact vl_145_6 ω _ _ _ _ _ (br_t (by rw [e, show j = N by omega]; exact Int32.le_refl _) ⟨Or.inl rfl, _, rfl, h0 hA⟩)
    | succ n ih =>
      intro j hj hA
      refine vl_145_6 ω _ _ _ _ _ (br_f (by rw [e]; exact nI_ge (by omega) (by omega)) (br_t rfl ?_))
      rw [nI_1]
      exact ih (j + 1) (by omega) hA
  have key : ∀ n j, j + n = N → (∀ s, s < j → S.testBit s = true → MW (ω.1 35 s) (W.testBit s) H) → me_W 145 6 [some (.ref 29), some (.int (nI S)), some (.int (nI H)), some (.int (nI W)), some (.int 1), some (.int (nI j))] [] ω (fun r ω' => ∃ v : Int32, r = some (.int v) ∧ Q v ω') := by
    intro n
    induction n with
    | zero =>
      intro j hj hA
      exact vl_145_6 ω _ _ _ _ _ (br_t (by rw [e, show j = N by omega]; exact Int32.le_refl _) ⟨Or.inr rfl, _, rfl, h1 (fun s hs hb => hA s (by have := bit_lt hS hb; omega) hb)⟩)
    | succ n ih =>
      intro j hj hA
      refine vl_145_6 ω _ _ _ _ _ (br_f (by rw [e]; exact nI_ge (by omega) (by omega)) (br_f (by decide) ?_))
      rw [bitI (by omega) (by omega), nI_1]
      cases hb : S.testBit j
      · exact br_t rfl (ih (j + 1) (by omega) (fun s hs hsb => by
          by_cases q : s = j
          · rw [q, hb] at hsb; cases hsb
          · exact hA s (by omega) hsb))
      · refine br_f (by decide) (t140 (by omega) hH hW (fun m => br_f (by decide) (ih (j + 1) (by omega) (fun s hs hsb => ?_))) (fun m => br_t rfl (kb n (j + 1) (by omega) (fun q => m (q j (by omega) hb)))))
        by_cases q : s = j
        · rw [q]; exact m
        · exact hA s (by omega) hsb
  exact vc_145 ω _ _ _ (key N 0 (by omega) (fun s hs => absurd hs (by omega)))
/-- what one mends -/
def mdF (k v : Int32) (H : Nat) : Int32 := if k = 1 then (if (9 : Int32) < v then 9 else v) else if k = 2 then (if (2 : Int32) < nI H then v else v / 2) else if k = 4 then v / 2 else v
theorem t34 {ω : Om} {s t H : Nat} (hs : s < 7) (ht : t < 4) (hH : H < 6) {Q : Int32 → Om → Prop} (h : Q (mdF (ω.1 12 s) (ω.1 14 (s * 4 + t)) H) ω) : me_CtI 34 [.ref 11, .int (nI s), .int (nI t), .int (nI H)] ω Q := by
  refine vc_34 ω (nI s) (nI t) (nI H) (t91 (fun _ => br_f (by decide) (t24 (fun s' t' hs' ht' e1 e2 => t21 hs ?_) (fun q => absurd ⟨vp_in_nI hs (by decide), vp_in_nI ht (by decide)⟩ q))) (fun q => absurd (vp_in_nI hH (by decide)) q))
  obtain rfl : s = s' := (nI_eq (by omega) (by omega)).mp e1
  obtain rfl : t = t' := (nI_eq (by omega) (by omega)).mp e2
  unfold mdF at h
  refine ⟨fun c => ⟨_, rfl, ?_⟩, fun c => ⟨fun c2 => ⟨fun c3 => ⟨_, rfl, ?_⟩, fun c3 => ⟨by decide, _, rfl, ?_⟩⟩, fun c2 => ⟨fun c3 => ⟨_, rfl, ?_⟩, fun c3 => ⟨fun c4 => ⟨by decide, _, rfl, ?_⟩, fun c4 => ⟨_, rfl, ?_⟩⟩⟩⟩⟩
  · rw [if_pos c] at h; exact h
  · rw [if_neg c, if_pos c2, if_pos c3] at h; exact h
  · rw [if_neg c, if_pos c2, if_neg c3] at h; exact h
  · rw [if_neg c, if_neg c2, if_neg (by rw [c3]; decide)] at h; exact h
  · rw [if_neg c, if_neg c2, if_pos c4] at h; exact h
  · rw [if_neg c, if_neg c2, if_neg c4] at h; exact h
theorem le_lt_or {a b : Int32} (h : a ≤ b) (h2 : ¬ a < b) : a = b := by
  rw [Int32.le_iff_toInt_le] at h
  rw [Int32.lt_iff_toInt_lt] at h2
  exact Int32.toInt_inj.mp (by omega)
theorem lt_le {a b : Int32} (h : a < b) : a ≤ b := by
  rw [Int32.lt_iff_toInt_lt] at h
  rw [Int32.le_iff_toInt_le]
  omega
theorem min_eq (a v : Int32) : (if a < v then a else v) = if a ≤ v then a else v := by
  by_cases c : a < v
  · rw [if_pos c, if_pos (lt_le c)]
  · rw [if_neg c]
    by_cases d : a ≤ v
    · rw [if_pos d]; exact (le_lt_or d c).symm
    · rw [if_neg d]
theorem t139 {ω : Om} {s t H : Nat} (hs : s < 7) (ht : t < 4) (hH : H < 6) {Q : Int32 → Om → Prop} (h : Q (mdF (ω.1 35 s) (ω.1 37 (s * 4 + t)) H) ω) : me_CtI 139 [.ref 29, .int (nI s), .int (nI t), .int (nI H)] ω Q := by
  refine vc_139 ω (nI s) (nI t) (nI H) ?_
  rw [ix4', nI_clamp (by omega), nI_clamp (by omega), Nat.mul_comm 4 s]
  unfold mdF at h
  rw [min_eq] at h
  refine ⟨vp_in_nI (by omega) (by decide), vp_in_nI hs (by decide), fun c => ⟨fun c2 => ⟨_, rfl, ?_⟩, fun c2 => ⟨_, rfl, ?_⟩⟩, fun c => ⟨fun c2 => ⟨fun c3 => ⟨_, rfl, ?_⟩, fun c3 => ⟨by decide, _, rfl, ?_⟩⟩, fun c2 => ⟨fun c3 => ⟨_, rfl, ?_⟩, fun c3 => ⟨fun c4 => ⟨by decide, _, rfl, ?_⟩, fun c4 => ⟨_, rfl, ?_⟩⟩⟩⟩⟩
  · rw [if_pos c, if_pos c2] at h; exact h
  · rw [if_pos c, if_neg c2] at h; exact h
  · have : (2 : Int32) < nI H := nI_lt (a := 2) (by have := (nI_leI (a := 3) (by decide) (by omega)).mp c3; omega) (by omega)
    rw [if_neg c, if_pos c2, if_pos this] at h; exact h
  · have : ¬ (2 : Int32) < nI H := fun q => c3 (nI_le (a := 3) (by have := (nI_ltI (a := 2) (by decide) (by omega)).mp q; omega) (by omega))
    rw [if_neg c, if_pos c2, if_neg this] at h; exact h
  · rw [if_neg c, if_neg c2, if_neg (by rw [c3]; decide)] at h; exact h
  · rw [if_neg c, if_neg c2, if_pos c4] at h; exact h
  · rw [if_neg c, if_neg c2, if_neg c4] at h; exact h
/-- a sum over a set -/
def sm (S : Nat) (f : Nat → Int32) : Nat → Int32
  | 0 => 0
  | j + 1 => sm S f j + (if S.testBit j = true then f j else 0)
theorem sm_c {S : Nat} {f g : Nat → Int32} : ∀ n, (∀ s, s < n → f s = g s) → sm S f n = sm S g n
  | 0, _ => rfl
  | n + 1, h => by
    unfold sm
    rw [sm_c n (fun s hs => h s (by omega)), h n (by omega)]
theorem sm_0 {f : Nat → Int32} : ∀ n, sm 0 f n = 0
  | 0 => rfl
  | n + 1 => by
    unfold sm
    rw [sm_0 n]
    simp
theorem t35 {ω : Om} {N S : Nat} (hN : N ≤ 7) (e : ω.1 11 4 = nI N) (hS : S < 128) {th h hv : Int32} {f : Nat → Int32} (hf : ∀ s, s < N → S.testBit s = true → ∀ Q : Int32 → Om → Prop, Q (f s) ω → me_CtI 34 [.ref 11, .int (nI s), .int th, .int h] ω Q) (hh : ∀ Q : Int32 → Om → Prop, Q hv ω → me_CtI 26 [.ref 11, .int th] ω Q) {Q : Int32 → Om → Prop} (q : Q (if hv < sm S f N then hv else sm S f N) ω) : me_CtI 35 [.ref 11, .int (nI S), .int th, .int h] ω Q := by
  have key : ∀ n j, j + n = N → me_W 35 6 [some (.ref 11), some (.int (nI S)), some (.int th), some (.int h), some (.int (sm S f j)), some (.int (nI j))] [] ω (fun r ω' => ∃ v : Int32, r = some (.int v) ∧ Q v ω') := by
    intro n
    induction n with
    | zero =>
      intro j hj
      obtain rfl : j = N := by omega
      exact vl_35_6 ω _ _ _ _ _ (br_t (by rw [e]; exact Int32.le_refl _) (hh _ ⟨_, rfl, q⟩))
    | succ n ih =>
      intro j hj
      have i1 := ih (j + 1) (by omega)
      unfold sm at i1
      refine vl_35_6 ω _ _ _ _ _ (br_f (by rw [e]; exact nI_ge (by omega) (by omega)) ?_)
      rw [bitI (by omega) (by omega), nI_1]
      cases hb : S.testBit j
      · rw [hb] at i1
        exact br_f (by decide) i1
      · rw [hb] at i1
        exact br_t rfl (hf j (by omega) hb _ i1)
  exact vc_35 ω _ _ _ (key N 0 (by omega))
theorem t146 {ω : Om} {N S t H : Nat} (hN : N ≤ 7) (e : ω.1 29 15 = nI N) (hS : S < 128) (ht : t < 4) (hH : H < 6) {Q : Int32 → Om → Prop} (q : Q (if ω.1 38 t < sm S (fun s => mdF (ω.1 35 s) (ω.1 37 (s * 4 + t)) H) N then ω.1 38 t else sm S (fun s => mdF (ω.1 35 s) (ω.1 37 (s * 4 + t)) H) N) ω) : me_CtI 146 [.ref 29, .int (nI S), .int (nI t), .int (nI H)] ω Q := by
  have v : vp_in (nI t) 4 := vp_in_nI ht (by decide)
  rw [min_eq] at q
  have key : ∀ n j, j + n = N → me_W 146 6 [some (.ref 29), some (.int (nI S)), some (.int (nI t)), some (.int (nI H)), some (.int (sm S (fun s => mdF (ω.1 35 s) (ω.1 37 (s * 4 + t)) H) j)), some (.int (nI j))] [] ω (fun r ω' => ∃ v : Int32, r = some (.int v) ∧ Q v ω') := by
    intro n
    induction n with
    | zero =>
      intro j hj
      obtain rfl : j = N := by omega
      refine vl_146_6 ω _ _ _ _ _ (br_t (by rw [e]; exact Int32.le_refl _) ⟨v, ?_⟩)
      rw [nI_clamp (by omega)]
      refine ⟨fun c => ⟨v, _, rfl, ?_⟩, fun c => ⟨_, rfl, ?_⟩⟩
      · rw [if_pos c] at q; exact q
      · rw [if_neg c] at q; exact q
    | succ n ih =>
      intro j hj
      have i1 := ih (j + 1) (by omega)
      unfold sm at i1
      refine vl_146_6 ω _ _ _ _ _ (br_f (by rw [e]; exact nI_ge (by omega) (by omega)) ?_)
      rw [bitI (by omega) (by omega), nI_1]
      cases hb : S.testBit j
      · rw [hb] at i1
        exact br_f (by decide) i1
      · rw [hb] at i1
        exact br_t rfl (t139 (by omega) ht hH i1)
  exact vc_146 ω _ _ _ (key N 0 (by omega))
/-- who is gone by a set -/
def gn (k : Nat → Int32) (S W : Nat) : Nat → Nat
  | 0 => W
  | j + 1 => gn k S W j ||| (if k j = 1 then 0 else S &&& 2 ^ j)
theorem gn_bit {k : Nat → Int32} {S W : Nat} (i : Nat) : ∀ j, (gn k S W j).testBit i = (W.testBit i || (decide (i < j) && S.testBit i && !decide (k i = 1)))
  | 0 => by simp [gn]
  | j + 1 => by
    unfold gn
    rw [Nat.testBit_or, gn_bit i j]
    by_cases e : i = j
    · subst e
      by_cases c : k i = 1
      · simp [c]
      · simp [c, Nat.testBit_two_pow]
    · have e2 : decide (i < j + 1) = decide (i < j) := by
        by_cases q : i < j
        · simp [q]; omega
        · simp [q]; omega
      have e3 : ¬ j = i := fun q => e q.symm
      rw [e2]
      by_cases c : k j = 1
      · simp [c]
      · simp [c, Nat.testBit_two_pow, e3]
theorem gn_lt {k : Nat → Int32} {S W : Nat} (hW : W < 128) (hS : S < 128) : ∀ j, gn k S W j < 128
  | 0 => hW
  | j + 1 => by
    unfold gn
    refine Nat.or_lt_two_pow (n := 7) (gn_lt hW hS j) ?_
    by_cases c : k j = 1
    · rw [if_pos c]; decide
    · rw [if_neg c]; exact Nat.lt_of_le_of_lt Nat.and_le_left hS
theorem t147 {ω : Om} {N S W : Nat} (hN : N ≤ 7) (e : ω.1 29 15 = nI N) (hS : S < 128) (hW : W < 128) {Q : Int32 → Om → Prop} (q : Q (nI (gn (ω.1 35) S W N)) ω) : me_CtI 147 [.ref 29, .int (nI S), .int (nI W)] ω Q := by
  have key : ∀ n j, j + n = N → me_W 147 5 [some (.ref 29), some (.int (nI S)), none, some (.int (nI (gn (ω.1 35) S W j))), some (.int (nI j))] [] ω (fun r ω' => ∃ v : Int32, r = some (.int v) ∧ Q v ω') := by
    intro n
    induction n with
    | zero =>
      intro j hj
      obtain rfl : j = N := by omega
      exact vl_147_5 ω _ _ _ (br_t (by rw [e]; exact Int32.le_refl _) ⟨_, rfl, q⟩)
    | succ n ih =>
      intro j hj
      have i1 := ih (j + 1) (by omega)
      have hg := gn_lt (k := ω.1 35) hW hS j
      have hp : 2 ^ j < 2 ^ 32 := Nat.pow_lt_pow_right (by decide) (by omega)
      refine vl_147_5 ω _ _ _ (br_f (by rw [e]; exact nI_ge (by omega) (by omega)) ?_)
      rw [nI_clamp (by omega), nI_1, sh2 j (by omega), and_nI (by omega) hp, or_nI (by omega) (Nat.lt_of_le_of_lt Nat.and_le_left (by omega)), show (0 : Int32) = nI 0 from rfl, or_nI (by omega) (by decide)]
      unfold gn at i1
      refine ⟨vp_in_nI (by omega) (by decide), fun c => ?_, fun c => ?_⟩
      · rw [if_pos c] at i1; exact i1
      · rw [if_neg c] at i1; exact i1
  exact vc_147 ω _ _ (key N 0 (by omega))
theorem sp_eq {S nb : Nat} (hS : S < 128) (hb : nb < 128) : nI S &&& (nI nb ^^^ (-1)) = nI (S ^^^ (S &&& nb)) := by
  have h1 : S ^^^ (S &&& nb) < 128 := Nat.xor_lt_two_pow (n := 7) hS (Nat.lt_of_le_of_lt Nat.and_le_left hS)
  apply Int32.toBitVec_inj.mp
  have m : (-1 : Int32).toBitVec = BitVec.allOnes 32 := by decide
  have tb : ∀ n, (nI n).toBitVec = BitVec.ofNat 32 n := fun n => rfl
  rw [Int32.toBitVec_and, Int32.toBitVec_xor, m, tb, tb, tb]
  apply BitVec.eq_of_getLsbD_eq
  intro i hi
  simp only [BitVec.getLsbD_and, BitVec.getLsbD_xor, BitVec.getLsbD_ofNat, BitVec.getLsbD_allOnes, Nat.testBit_xor, Nat.testBit_and, hi, decide_true, Bool.true_and]
  cases S.testBit i <;> cases nb.testBit i <;> rfl
