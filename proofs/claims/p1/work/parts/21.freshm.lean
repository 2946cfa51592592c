/-! THE REFERENCE, FRESH -/
def Gr (x : Int64) (ω : Om) : Prop := (∀ k, k ≠ 29 → ω.1 29 k = om0.1 29 k) ∧ (∀ i k, 30 ≤ i → ω.1 i k = om0.1 i k) ∧ (∀ i k, 30 ≤ i → i ≠ 40 → ω.2 i k = 0) ∧ ω.2 29 37 = x
section GRM
variable {hx : Int64}
theorem Mf.g {ω : Om} (h : Mf ω) : Gr 0 ω := ⟨fun k _ => (h 29 k (by decide)).1, fun i k hi => (h i k (by omega)).1, fun i k hi _ => (h i k (by omega)).2, (h 29 37 (by decide)).2⟩
theorem Gr_seed {ω : Om} (h : Gr hx ω) {v : Int32} : Gr hx (ui ω 29 29 v) := by
  refine ⟨fun k hk => ?_, fun i k hi => ?_, h.2.2⟩
  · show upd (ω.1 29) 29 v k = _
    rw [pk_un hk]
    exact h.1 k hk
  · have e : (ui ω 29 29 v).1 i = ω.1 i := if_neg (by omega)
    rw [e]
    exact h.2.1 i k hi
theorem Gr_ui {ω : Om} (h : Gr hx ω) {i k : Nat} {v : Int32} (hi : 30 ≤ i) (hv : v = om0.1 i k) : Gr hx (ui ω i k v) := by
  refine ⟨fun j hj => ?_, fun a b ha => ?_, h.2.2⟩
  · have e : (ui ω i k v).1 29 = ω.1 29 := if_neg (by omega)
    rw [e]
    exact h.1 j hj
  · show (if a = i then upd (ω.1 i) k v else ω.1 a) b = _
    by_cases e : a = i
    · rw [if_pos e]
      subst e
      by_cases e2 : b = k
      · subst e2; rw [pk_us, hv]
      · rw [pk_un e2]; exact h.2.1 a b ha
    · rw [if_neg e]; exact h.2.1 a b ha
theorem Gr_ul {ω : Om} (h : Gr hx ω) {i k : Nat} {v : Int64} (hv : i ≠ 40 → v = 0) (h9 : i ≠ 29 := by decide) : Gr hx (ul ω i k v) := by
  refine ⟨h.1, h.2.1, fun a b ha h4 => ?_, ?_⟩
  case refine_2 =>
    have e : (ul ω i k v).2 29 = ω.2 29 := if_neg (fun q => h9 q.symm)
    rw [e]
    exact h.2.2.2
  show (if a = i then vp_updL (ω.2 i) k v else ω.2 a) b = _
  by_cases e : a = i
  · rw [if_pos e]
    subst e
    by_cases e2 : b = k
    · subst e2; rw [pk_uLs, hv h4]
    · rw [pk_uLn e2]; exact h.2.2.1 a b ha h4
  · rw [if_neg e]; exact h.2.2.1 a b ha h4
theorem Gr_uh {ω : Om} (h : Gr hx ω) {v : Int64} : Gr v (ul ω 29 37 v) := by
  refine ⟨h.1, h.2.1, fun a b ha h4 => ?_, rfl⟩
  have e : (ul ω 29 37 v).2 a = ω.2 a := if_neg (by omega)
  rw [e]
  exact h.2.2.1 a b ha h4
theorem Gr.sl {ω : Om} (h : Gr hx ω) : ω.1 29 15 = 0 := h.1 15 (by decide)
theorem Gr.hr {ω : Om} (h : Gr hx ω) : ω.1 29 16 = 0 := h.1 16 (by decide)
theorem Gr.wk {ω : Om} (h : Gr hx ω) : ω.1 29 17 = 0 := h.1 17 (by decide)
theorem Gr.rl {ω : Om} (h : Gr hx ω) : ω.1 29 9 = 0 := h.1 9 (by decide)
theorem ix128' (a b : Nat) : (128 : Int32) * nI a + nI b = nI (128 * a + b) := by rw [show (128 : Int32) = nI 128 from rfl, pk_mul, nI_add]
theorem ix768 (b : Nat) : (768 : Int32) + nI b = nI (768 + b) := by rw [show (768 : Int32) = nI 768 from rfl, nI_add]
theorem g135 {ω : Om} (hz : ω.1 29 15 = 0) {s : Int32} {Q : Int32 → Om → Prop} (h : Q 0 ω) : me_CtI 135 [.ref 29, .int s] ω Q := by
  refine vc_135 ω s (t123 (fun c => ?_) (fun _ => ⟨Or.inl rfl, _, rfl, h⟩))
  rw [hz, Int64.le_iff_toInt_le, Int64.le_iff_toInt_le] at c
  rw [show (((0 : Int32) - 1).toInt64).toInt = -1 by decide, show (0 : Int64).toInt = 0 by decide] at c
  omega
theorem g144 {ω : Om} {Q : Int32 → Om → Prop} (h : Q 0 ω) : me_CtI 144 [.int 0] ω Q := by
  have hz : ∀ k, k < 7 → (0 : Int32) + ((0 >>> (nI k &&& 31)) &&& 1) = 0 := by decide
  have key : ∀ n k, k + n = 7 → me_W 144 4 [some (.int 0), some (.int 0), some (.int (nI k))] [] ω (fun r ω' => ∃ v, r = some (.int v) ∧ Q v ω') := by
    intro n
    induction n with
    | zero =>
      intro k hk
      exact vl_144_4 ω 0 0 (nI k) (br_t (by rw [show k = 7 by omega]; decide) ⟨_, rfl, h⟩)
    | succ n ih =>
      intro k hk
      refine vl_144_4 ω 0 0 (nI k) (br_f (nI_ge (b := 7) (by omega) (by decide)) ?_)
      rw [hz k (by omega), nI_1]
      exact ih (k + 1) (by omega)
  exact vc_144 ω 0 (key 7 0 rfl)
theorem g145 {ω : Om} (hz : ω.1 29 15 = 0) {a b c : Int32} {Q : Int32 → Om → Prop} (h : Q 1 ω) : me_CtI 145 [.ref 29, .int a, .int b, .int c] ω Q :=
  vc_145 ω a b c (vl_145_6 ω a b c 1 0 (br_t (by rw [hz]; decide) ⟨Or.inr rfl, _, rfl, h⟩))
theorem g146 {ω : Om} (hG : Gr hx ω) {a b c : Int32} {Q : Int32 → Om → Prop} (hb : vp_in b 4) (h : Q 0 ω) : me_CtI 146 [.ref 29, .int a, .int b, .int c] ω Q := by
  obtain ⟨j, hj, rfl⟩ := vp_in_of hb (by decide)
  have h5 : ∀ j, j < 4 → ¬ om0.1 38 j ≤ 0 := by decide
  exact vc_146 ω a (nI j) c (vl_146_6 ω a (nI j) c 0 0 (br_t (by rw [hG.sl]; decide) ⟨hb, br_f (by rw [nI_clamp (by omega), hG.2.1 38 j (by decide)]; exact h5 j hj) ⟨_, rfl, h⟩⟩))
theorem g147 {ω : Om} (hz : ω.1 29 15 = 0) {a b : Int32} {Q : Int32 → Om → Prop} (h : Q b ω) : me_CtI 147 [.ref 29, .int a, .int b] ω Q :=
  vc_147 ω a b (vl_147_5 ω a b 0 (br_t (by rw [hz]; decide) ⟨_, rfl, h⟩))
def Pw (ω : Om) : Prop := ∀ k, k < 7 → ω.2 40 k = Int64.ofNat (10 ^ k)
theorem Pw_ul {ω : Om} (h : Pw ω) {i k : Nat} {v : Int64} (hi : i ≠ 40) : Pw (ul ω i k v) := by
  intro a ha
  have e : (ul ω i k v).2 40 = ω.2 40 := if_neg (fun q => hi q.symm)
  rw [e]
  exact h a ha
/-- layBests in a new world -/
theorem g151 {ω : Om} (hG : Gr hx ω) {Q : Om → Prop} (h : ∀ ω', Gr hx ω' → Pw ω' → Q ω') : me_CtV 151 [.ref 29] ω Q := by
  have ke : ∀ (n j k : Nat), j + n = 4 → k < 6 → (∀ ω', Gr hx ω' → Pw ω' → me_W 151 73 [some (.ref 29), some (.int (nI k)), some (.int (nI 1)), none, none, none, none, none, none] [] ω' (fun r ω' => r = none ∧ Q ω')) → ∀ ω', Gr hx ω' → Pw ω' → me_W 151 92 [some (.ref 29), some (.int (nI k)), some (.int (nI 0)), some (.long 0), none, some (.int 10), some (.int (nI j)), none, none] [] ω' (fun r ω' => r = none ∧ Q ω') := by
    intro n
    induction n with
    | zero =>
      intro j k hj hk hn ω' h1 h2
      refine vl_151_92 ω' (nI k) (nI 0) 0 10 (nI j) (br_t (by rw [show j = 4 by omega]; decide) ?_)
      rw [nI_1, ix128', ix128', nI_1]
      refine ⟨vp_in_nI (by omega) (by decide), vp_in_nI (by omega) (by decide), hn _ (Gr_ul h1 (fun _ => ?_)) (Pw_ul h2 (by decide))⟩
      rw [h1.2.2.1 39 _ (by decide) (by decide)]
      decide
    | succ n ih =>
      intro j k hj hk hn ω' h1 h2
      refine vl_151_92 ω' (nI k) (nI 0) 0 10 (nI j) (br_f (nI_ge (b := 4) (by omega) (by decide)) ?_)
      rw [ix4', nI_1]
      refine ⟨vp_in_nI (by omega) (by decide), br_t ?_ (ih (j + 1) k (by omega) hk hn ω' h1 h2)⟩
      rw [h1.2.1 31 _ (by decide)]
      exact Int32.le_refl _
  have kd : ∀ (k : Nat), k < 7 → ∀ ω', Gr hx ω' → Pw ω' → me_W 151 67 [some (.ref 29), some (.int (nI k + (-1))), none, none, none, none, none, none, none] [] ω' (fun r ω' => r = none ∧ Q ω') := by
    intro k
    induction k with
    | zero =>
      intro _ ω' h1 h2
      exact vl_151_67 ω' (nI 0 + (-1)) (br_t (by decide) ⟨rfl, h ω' h1 h2⟩)
    | succ k ih =>
      intro hk ω' h1 h2
      rw [pk_m1]
      refine vl_151_67 ω' (nI k) (br_f (nI_pos (by omega)) (vl_151_73 ω' (nI k) 0 (br_f (by rw [h1.sl]; decide) (ke 4 0 k rfl (by omega) (fun ω2 g1 g2 => vl_151_73 ω2 (nI k) (nI 1) (br_t (by rw [g1.sl]; decide) (ih (by omega) ω2 g1 g2))) ω' h1 h2))))
  have kb : ∀ (n j : Nat), j + n = 128 → ∀ ω', Gr hx ω' → Pw ω' → me_W 151 41 [some (.ref 29), some (.int (nI j)), none, none, none, none, none, none, none] [] ω' (fun r ω' => r = none ∧ Q ω') := by
    intro n
    induction n with
    | zero =>
      intro j hj ω' h1 h2
      exact vl_151_41 ω' (nI j) (br_t (by rw [show j = 128 by omega]; decide) (kd 6 (by decide) ω' h1 h2))
    | succ n ih =>
      intro j hj ω' h1 h2
      refine vl_151_41 ω' (nI j) (br_f (nI_ge (b := 128) (by omega) (by decide)) ?_)
      rw [ix768, nI_1]
      exact ⟨vp_in_nI (by omega) (by decide), ih (j + 1) (by omega) _ (Gr_ul h1 (fun _ => rfl)) (Pw_ul h2 (by decide))⟩
  have ka : ∀ (n j : Nat), j + n = 7 → 0 < j → ∀ ω', Gr hx ω' → (∀ k, k < j → ω'.2 40 k = Int64.ofNat (10 ^ k)) → me_W 151 9 [some (.ref 29), some (.int (nI j)), none, none, none, none, none, none, none] [] ω' (fun r ω' => r = none ∧ Q ω') := by
    intro n
    induction n with
    | zero =>
      intro j hj h0 ω' h1 h2
      exact vl_151_9 ω' (nI j) (br_t (by rw [show j = 7 by omega]; decide) (kb 128 0 rfl ω' h1 (fun k hk => h2 k (by omega))))
    | succ n ih =>
      intro j hj h0 ω' h1 h2
      obtain ⟨i, rfl⟩ : ∃ i, j = i + 1 := ⟨j - 1, by omega⟩
      have hp : ∀ i, i < 6 → (10 : Int64) * Int64.ofNat (10 ^ i) = Int64.ofNat (10 ^ (i + 1)) := by decide
      refine vl_151_9 ω' (nI (i + 1)) (br_f (nI_ge (b := 7) (by omega) (by decide)) ?_)
      rw [nI_pred, nI_1, nI_clamp (n := i) (by omega), nI_clamp (n := i + 1) (by omega), h2 i (by omega), hp i (by omega)]
      refine ⟨vp_in_nI (by omega) (by decide), vp_in_nI (by omega) (by decide), ih (i + 2) (by omega) (by omega) _ (Gr_ul h1 (fun c => absurd rfl c)) (fun k hk => ?_)⟩
      show vp_updL (ω'.2 40) (i + 1) _ k = _
      by_cases e : k = i + 1
      · subst e; rw [pk_uLs]
      · rw [pk_uLn e]; exact h2 k (by omega)
  refine vc_151 ω ⟨vp_in_nI (n := 0) (by decide) (by decide), ka 6 1 rfl (by decide) _ (Gr_ul hG (fun c => absurd rfl c)) (fun k hk => ?_)⟩
  obtain rfl : k = 0 := by omega
  rfl
theorem g152 {ω : Om} {c : Int32} {Q : Int64 → Om → Prop} (h0 : c = 0 → Q 0 ω) (h1 : ¬ c = 0 → Q 1 ω) : me_CtJ 152 [.long 0, .long (Int64.ofNat (10 ^ 6)), .int c] ω Q := by
  refine vc_152 ω 0 (Int64.ofNat (10 ^ 6)) c (vl_152_6 ω 0 (Int64.ofNat (10 ^ 6)) c 0 (Int64.ofNat (10 ^ 6)) (br_t (by decide) ⟨fun c0 => ⟨by decide, _, rfl, ?_⟩, fun c0 => ⟨by decide, _, rfl, ?_⟩⟩))
  · rw [show (0 : Int64) / Int64.ofNat (10 ^ 6) = 0 by decide]
    exact h0 c0
  · rw [show Int64.ofNat (10 ^ 6) / Int64.ofNat (10 ^ 6) = 1 by decide]
    exact h1 c0
theorem g153 {ω : Om} {t : Int32} {Q : Int32 → Om → Prop} (h1 : vp_in t 2 → Q 1 ω) (h0 : ¬ vp_in t 2 → Q 0 ω) : me_CtI 153 [.int t] ω Q :=
  vc_153 ω t (t123n 2 (by decide) (by decide) (fun c => ⟨Or.inr rfl, _, rfl, h1 c⟩) (fun c => ⟨Or.inl rfl, _, rfl, h0 c⟩))
theorem g154 {ω : Om} (hG : Gr hx ω) {c : Int32} {Q : Int64 → Om → Prop} (h : ∀ ω', Gr hx ω' → (c = 0 → Q 0 ω') ∧ (¬ c = 0 → Q 1 ω')) : me_CtJ 154 [.ref 29, .int c] ω Q := by
  refine vc_154 ω c (g151 hG (fun ω1 h1 h2 => ?_))
  have e1 : (128 : Int32) * ω1.1 29 16 + ω1.1 29 17 = nI 0 := by rw [h1.hr, h1.wk]; decide
  have e2 : (6 : Int32) - ω1.1 29 16 = nI 6 := by rw [h1.hr]; decide
  rw [e1, e2]
  refine ⟨vp_in_nI (by decide) (by decide), vp_in_nI (by decide) (by decide), ?_⟩
  rw [h1.2.2.1 39 _ (by decide) (by decide), show (nI 6).toNatClampNeg = 6 by decide, h2 6 (by decide)]
  exact g152 (fun c0 => ⟨_, rfl, (h ω1 h1).1 c0⟩) (fun c0 => ⟨_, rfl, (h ω1 h1).2 c0⟩)
theorem g155 {ω : Om} (hG : Gr hx ω) {c : Int32} {Q : Int64 → Om → Prop} (hc : vp_in c 2) (h : ∀ ω', Gr hx ω' → (c = 0 → Q 0 ω') ∧ (¬ c = 0 → Q 1 ω')) : me_CtJ 155 [.ref 29, .int c] ω Q :=
  vc_155 ω c (g153 (fun _ => br_f (by decide) (g154 hG (fun ω' h' => ⟨fun c0 => ⟨_, rfl, (h ω' h').1 c0⟩, fun c0 => ⟨_, rfl, (h ω' h').2 c0⟩⟩))) (fun n => absurd hc n))
end GRM
