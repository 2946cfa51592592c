/-! SCRATCH: what a question may change. isS i k: a place that holds the state -/
def isS (i k : Nat) : Bool := !(Nat.beq i 0 || (Nat.ble 3 i && Nat.ble i 6) || (Nat.ble 20 i && Nat.ble i 28) || Nat.beq i 32 || Nat.beq i 34 || (Nat.ble 39 i && Nat.ble i 43) || (Nat.beq i 29 && (Nat.beq k 5 || Nat.beq k 6 || Nat.beq k 7 || Nat.beq k 8 || Nat.beq k 12 || Nat.beq k 13 || Nat.beq k 29)))
/-- the state is as it was -/
def Sc (ω0 ω : Om) : Prop := ∀ i k, isS i k = true → ω.1 i k = ω0.1 i k
theorem Sc.o (ω : Om) : Sc ω ω := fun _ _ _ => rfl
theorem Sc.trans {a b c : Om} (h : Sc a b) (h2 : Sc b c) : Sc a c := fun i k hi => (h2 i k hi).trans (h i k hi)
theorem Sc_ui {ω0 ω : Om} {i k : Nat} {v : Int32} (hn : isS i k = false) (h : Sc ω0 ω) : Sc ω0 (ui ω i k v) := by
  intro a b hab
  show (if a = i then upd (ω.1 i) k v else ω.1 a) b = _
  by_cases e : a = i
  · rw [if_pos e]
    subst e
    unfold upd
    by_cases e2 : b = k
    · subst e2
      rw [hn] at hab
      cases hab
    · rw [if_neg e2]; exact h a b hab
  · rw [if_neg e]; exact h a b hab
theorem Sc_ul {ω0 ω : Om} {i k : Nat} {v : Int64} (h : Sc ω0 ω) : Sc ω0 (ul ω i k v) := h
theorem Sc_nb {ω0 ω : Om} (hs : Sc ω0 ω) {i k : Nat} (hi : isS i k = true) {a : Int32} (c : ¬ ω.1 i k ≤ a) : ¬ ω0.1 i k ≤ a := by
  rw [← hs i k hi]; exact c
/-! counting -/
theorem up_ind {B : Int32} {M : Int32 → Prop} (h : ∀ a, (¬ B ≤ a → M (a + 1)) → M a) : ∀ a, M a := by
  have key : ∀ n (a : Int32), (B.toInt - a.toInt).toNat = n → M a := by
    intro n
    induction n using Nat.strongRecOn with
    | _ n ih =>
      intro a ha
      refine h a (fun c => ?_)
      rw [Int32.le_iff_toInt_le] at c
      have hb := B.toInt_lt
      have e : (a + 1).toInt = a.toInt + 1 := by
        rw [Int32.toInt_add]
        have h0 := a.le_toInt
        have e1 : (1 : Int32).toInt = 1 := by decide
        rw [e1]
        exact Int.bmod_eq_of_le (by omega) (by omega)
      exact ih _ (by omega) (a + 1) rfl
  exact fun a => key _ a rfl
theorem ul_ind {B : Int32} (hB : B.toInt < 2147483647 := by decide) {M : Int32 → Prop} (h : ∀ a, (¬ B < a → M (a + 1)) → M a) : ∀ a, M a := by
  have key : ∀ n (a : Int32), (B.toInt + 1 - a.toInt).toNat = n → M a := by
    intro n
    induction n using Nat.strongRecOn with
    | _ n ih =>
      intro a ha
      refine h a (fun c => ?_)
      rw [Int32.lt_iff_toInt_lt] at c
      have e : (a + 1).toInt = a.toInt + 1 := by
        rw [Int32.toInt_add]
        have h0 := a.le_toInt
        have e1 : (1 : Int32).toInt = 1 := by decide
        rw [e1]
        exact Int.bmod_eq_of_le (by omega) (by omega)
      exact ih _ (by omega) (a + 1) rfl
  exact fun a => key _ a rfl
theorem dn_ind {M : Int32 → Prop} (h : ∀ a, (¬ a < 0 → M (a + (-1))) → M a) : ∀ a, M a := by
  have key : ∀ n (a : Int32), (a.toInt + 1).toNat = n → M a := by
    intro n
    induction n using Nat.strongRecOn with
    | _ n ih =>
      intro a ha
      refine h a (fun c => ?_)
      rw [Int32.lt_iff_toInt_lt, Int32.toInt_zero] at c
      have e : (a + (-1)).toInt = a.toInt - 1 := by
        rw [Int32.toInt_add]
        have h0 := a.toInt_lt
        have e1 : (-1 : Int32).toInt = -1 := by decide
        rw [e1]
        exact Int.bmod_eq_of_le (by omega) (by omega)
      exact ih _ (by omega) (a + (-1)) rfl
  exact fun a => key _ a rfl
theorem nn_s {a B : Int32} (h : ¬ a < 0) (c : ¬ B ≤ a) : ¬ (a + 1) < 0 := by
  rw [Int32.lt_iff_toInt_lt, Int32.toInt_zero] at h ⊢
  rw [Int32.le_iff_toInt_le] at c
  have hb := B.toInt_lt
  have e : (a + 1).toInt = a.toInt + 1 := by
    rw [Int32.toInt_add]
    have e1 : (1 : Int32).toInt = 1 := by decide
    rw [e1]
    exact Int.bmod_eq_of_le (by omega) (by omega)
  omega
theorem nz_pos {x : Int32} (h : 0 < x) : ¬ x = 0 := by
  intro e; rw [e] at h; exact absurd h (by decide)
theorem nz_le {x : Int32} (h : ¬ x ≤ 0) : ¬ x = 0 := by
  intro e; rw [e] at h; exact h (by decide)
theorem nz_cmp {x : Int64} (h : ¬ lg_cmp x 0 = 0) : ¬ x = 0 := by
  intro e; rw [e] at h; exact h (by decide)
theorem nz_cle {x : Int64} (h : ¬ lg_cmp x 0 ≤ 0) : ¬ x = 0 := by
  intro e; rw [e] at h; exact h (by decide)
theorem nz_cgt {x : Int64} (h : 0 < lg_cmp x 0) : ¬ x = 0 := by
  intro e; rw [e] at h; exact absurd h (by decide)
/-! small readers of the class -/
theorem ix4 (a b : Nat) : nI a * (4 : Int32) + nI b = nI (a * 4 + b) := by rw [show (4 : Int32) = nI 4 from rfl, pk_mul, nI_add]
theorem ix4' (a b : Nat) : (4 : Int32) * nI a + nI b = nI (4 * a + b) := by rw [show (4 : Int32) = nI 4 from rfl, pk_mul, nI_add]
theorem ix128 (a b : Nat) : nI a * (128 : Int32) + nI b = nI (a * 128 + b) := by rw [show (128 : Int32) = nI 128 from rfl, pk_mul, nI_add]
theorem ix128' (a b : Nat) : (128 : Int32) * nI a + nI b = nI (128 * a + b) := by rw [show (128 : Int32) = nI 128 from rfl, pk_mul, nI_add]
theorem t2 {ω : Om} {h t : Int32} {Q : Int32 → Om → Prop} (h1 : ∀ a b : Nat, a < 6 → b < 4 → h = nI a → t = nI b → Q (ω.1 8 (a * 4 + b)) ω) (h0 : ¬ (vp_in h 6 ∧ vp_in t 4) → Q 0 ω) : me_CtI 2 [.ref 7, .int h, .int t] ω Q := by
  refine vc_2 ω h t (t91 (fun c => br_f (by decide) (t92 (fun c2 => br_f (by decide) ?_) (fun c2 => br_t rfl ⟨_, rfl, h0 (fun q => c2 q.2)⟩))) (fun c => br_t rfl ⟨_, rfl, h0 (fun q => c q.1)⟩))
  obtain ⟨a, ha, rfl⟩ := vp_in_of c (by decide)
  obtain ⟨b, hb, rfl⟩ := vp_in_of c2 (by decide)
  rw [ix4]
  refine ⟨vp_in_nI (by omega) (by decide), _, rfl, ?_⟩
  rw [nI_clamp (by omega)]
  exact h1 a b ha hb rfl rfl
theorem t62 {ω : Om} {a b : Int32} {Q : Int32 → Om → Prop} (h1 : vp_in a 7 → vp_in b 128 → Q 1 ω) (h0 : ¬ (vp_in a 7 ∧ vp_in b 128) → Q 0 ω) : me_CtI 62 [.int a, .int b] ω Q :=
  vc_62 ω a b ⟨fun c => ⟨Or.inl rfl, _, rfl, h0 (fun q => in_no1 c q.1)⟩, fun c => ⟨fun c2 => ⟨Or.inl rfl, _, rfl, h0 (fun q => in_no3 c2 rfl (by decide) q.1)⟩, fun c2 => ⟨fun c3 => ⟨Or.inl rfl, _, rfl, h0 (fun q => in_no1 c3 q.2)⟩, fun c3 => ⟨fun c4 => ⟨Or.inl rfl, _, rfl, h0 (fun q => in_no2 c4 rfl (by decide) q.2)⟩, fun c4 => ⟨Or.inr rfl, _, rfl, h1 (in_mkl c c2 rfl (by decide)) (in_mk c3 c4 rfl (by decide))⟩⟩⟩⟩⟩
theorem s_2 {ω0 ω : Om} {p0 : Int32} {p1 : Int32} {Q : Int32 → Om → Prop} (hs : Sc ω0 ω) (h : ∀ (v : Int32) (ω' : Om), Sc ω0 ω' → Q v ω') : me_CtI 2 [.ref 7, .int p0, .int p1] ω Q :=
  t2 (fun _ _ _ _ _ _ => h _ _ hs) (fun _ => h _ _ hs)
theorem s_58p {ω0 ω : Om} {p0 p1 : Int32} {Q : Int64 → Om → Prop} (hs : Sc ω0 ω) (h : ∀ (v : Int64) (ω' : Om), Sc ω0 ω' → Q v ω') : me_CtJ 58 [.ref 25, .int p0, .int p1] ω Q := by
  refine vc_58p ω p0 p1 (t62 (fun c c2 => br_f (by decide) ?_) (fun _ => br_t rfl ⟨_, rfl, h _ _ hs⟩))
  obtain ⟨a, ha, rfl⟩ := vp_in_of c (by decide)
  obtain ⟨b, hb, rfl⟩ := vp_in_of c2 (by decide)
  rw [ix128]
  exact ⟨vp_in_nI (by omega) (by decide), _, rfl, h _ _ hs⟩
theorem s_58w {ω0 ω : Om} {p0 p1 : Int32} {Q : Int64 → Om → Prop} (hs : Sc ω0 ω) (h : ∀ (v : Int64) (ω' : Om), Sc ω0 ω' → Q v ω') : me_CtJ 58 [.ref 27, .int p0, .int p1] ω Q := by
  refine vc_58w ω p0 p1 (t62 (fun c c2 => br_f (by decide) ?_) (fun _ => br_t rfl ⟨_, rfl, h _ _ hs⟩))
  obtain ⟨a, ha, rfl⟩ := vp_in_of c (by decide)
  obtain ⟨b, hb, rfl⟩ := vp_in_of c2 (by decide)
  rw [ix128]
  exact ⟨vp_in_nI (by omega) (by decide), _, rfl, h _ _ hs⟩
theorem s_59p {ω0 ω : Om} {p0 p1 : Int32} {p2 : Int64} {Q : Om → Prop} (hs : Sc ω0 ω) (h : ∀ (ω' : Om), Sc ω0 ω' → Q ω') : me_CtV 59 [.ref 25, .int p0, .int p1, .long p2] ω Q := by
  refine vc_59p ω p0 p1 p2 (t62 (fun c c2 => br_f (by decide) ?_) (fun _ => br_t rfl ⟨rfl, h _ hs⟩))
  obtain ⟨a, ha, rfl⟩ := vp_in_of c (by decide)
  obtain ⟨b, hb, rfl⟩ := vp_in_of c2 (by decide)
  rw [ix128]
  exact ⟨vp_in_nI (by omega) (by decide), rfl, h _ (Sc_ul hs)⟩
theorem s_59w {ω0 ω : Om} {p0 p1 : Int32} {p2 : Int64} {Q : Om → Prop} (hs : Sc ω0 ω) (h : ∀ (ω' : Om), Sc ω0 ω' → Q ω') : me_CtV 59 [.ref 27, .int p0, .int p1, .long p2] ω Q := by
  refine vc_59w ω p0 p1 p2 (t62 (fun c c2 => br_f (by decide) ?_) (fun _ => br_t rfl ⟨rfl, h _ hs⟩))
  obtain ⟨a, ha, rfl⟩ := vp_in_of c (by decide)
  obtain ⟨b, hb, rfl⟩ := vp_in_of c2 (by decide)
  rw [ix128]
  exact ⟨vp_in_nI (by omega) (by decide), rfl, h _ (Sc_ul hs)⟩
/-- what a sleeper was told -/
theorem t24 {ω : Om} {p0 p1 : Int32} {Q : Int32 → Om → Prop} (h1 : ∀ a b : Nat, a < 7 → b < 4 → p0 = nI a → p1 = nI b → Q (ω.1 14 (a * 4 + b)) ω) (h0 : ¬ (vp_in p0 7 ∧ vp_in p1 4) → Q 0 ω) : me_CtI 24 [.ref 11, .int p0, .int p1] ω Q := by
  refine vc_24 ω p0 p1 ⟨fun c => ⟨_, rfl, h0 (fun q => in_no1 c q.1)⟩, fun c => ⟨fun c2 => ⟨_, rfl, h0 (fun q => in_no2 c2 rfl (by decide) q.1)⟩, fun c2 => ⟨fun c3 => ⟨_, rfl, h0 (fun q => in_no1 c3 q.2)⟩, fun c3 => ⟨fun c4 => ⟨_, rfl, h0 (fun q => in_no2 c4 rfl (by decide) q.2)⟩, fun c4 => ?_⟩⟩⟩⟩
  obtain ⟨a, ha, rfl⟩ := vp_in_of (in_mk c c2 (n := 7) rfl (by decide)) (by decide)
  obtain ⟨b, hb, rfl⟩ := vp_in_of (in_mk c3 c4 (n := 4) rfl (by decide)) (by decide)
  rw [ix4]
  refine ⟨vp_in_nI (by omega) (by decide), _, rfl, ?_⟩
  rw [nI_clamp (by omega)]
  exact h1 a b ha hb rfl rfl
theorem s_24 {ω0 ω : Om} {p0 p1 : Int32} {Q : Int32 → Om → Prop} (hs : Sc ω0 ω) (h : ∀ (v : Int32) (ω' : Om), Sc ω0 ω' → Q v ω') : me_CtI 24 [.ref 11, .int p0, .int p1] ω Q :=
  t24 (fun _ _ _ _ _ _ => h _ _ hs) (fun _ => h _ _ hs)
theorem t26 {ω : Om} {p0 : Int32} {Q : Int32 → Om → Prop} (h1 : ∀ b : Nat, b < 4 → p0 = nI b → Q (ω.1 15 b) ω) (h0 : ¬ vp_in p0 4 → Q 0 ω) : me_CtI 26 [.ref 11, .int p0] ω Q := by
  refine vc_26 ω p0 (t92 (fun c => br_f (by decide) ⟨c, _, rfl, ?_⟩) (fun c => br_t rfl ⟨_, rfl, h0 c⟩))
  obtain ⟨b, hb, rfl⟩ := vp_in_of c (by decide)
  rw [nI_clamp (by omega)]
  exact h1 b hb rfl
theorem s_26 {ω0 ω : Om} {p0 : Int32} {Q : Int32 → Om → Prop} (hs : Sc ω0 ω) (h : ∀ (v : Int32) (ω' : Om), Sc ω0 ω' → Q v ω') : me_CtI 26 [.ref 11, .int p0] ω Q :=
  t26 (fun _ _ _ => h _ _ hs) (fun _ => h _ _ hs)
theorem t31 {ω : Om} {p0 : Int32} {Q : Int32 → Om → Prop} (h : Q (p0 &&& (ω.1 11 5 ^^^ (-1))) ω) : me_CtI 31 [.ref 11, .int p0] ω Q := vc_31 ω p0 ⟨_, rfl, h⟩
theorem s_15 {ω0 ω : Om} {p1 p2 : Int32} {Q : Om → Prop} (hs : Sc ω0 ω) (h : ∀ (ω' : Om), Sc ω0 ω' → Q ω') : me_CtV 15 [.ref 20, .ref 11, .int p1, .int p2] ω Q :=
  vc_15 ω p1 p2 ⟨fun _ => ⟨rfl, h _ hs⟩, fun c => ⟨fun _ => ⟨rfl, h _ hs⟩, fun c2 => ⟨in_mk c c2 rfl (by decide), t31 ⟨in_mk c c2 rfl (by decide), in_mk c c2 rfl (by decide), rfl, h _ (Sc_ui rfl (Sc_ul (Sc_ui rfl (Sc_ui rfl hs))))⟩⟩⟩⟩
theorem sl_14_123 {ω0 : Om} {P : Option Value → Om → Prop} {a4 : Int32} {b : Nat} (hb : b < 7) (hp : ∀ ω : Om, Sc ω0 ω → me_W 14 113 [some (.ref 20), some (.ref 11), none, none, some (.int a4), some (.int (nI (b + 1))), none, none] [] ω P) : ∀ n a (ω : Om), a + n = b → Sc ω0 ω → me_W 14 123 [some (.ref 20), some (.ref 11), none, none, some (.int a4), some (.int (nI b)), some (.int (nI a)), none] [] ω P := by
  intro n
  induction n with
  | zero =>
    intro a ω ha hs
    refine vl_14_123 ω a4 (nI b) (nI a) (br_t (by rw [show a = b by omega]; exact Int32.le_refl _) ?_)
    rw [nI_1]
    exact hp ω hs
  | succ n ih =>
    intro a ω ha hs
    have v1 : vp_in (nI a) 7 := vp_in_nI (by omega) (by decide)
    have v2 : vp_in (nI b) 7 := vp_in_nI (by omega) (by decide)
    refine vl_14_123 ω a4 (nI b) (nI a) (br_f (nI_ge (by omega) (by omega)) ⟨v1, v2, v1, fun _ => ?_, fun _ => ⟨v2, fun _ => ?_, fun _ => s_15 hs (fun ω' hs' => ?_)⟩⟩)
    all_goals rw [nI_1]
    · exact ih (a + 1) ω (by omega) hs
    · exact ih (a + 1) ω (by omega) hs
    · exact ih (a + 1) ω' (by omega) hs'
theorem sl_14_113 {ω0 : Om} {P : Option Value → Om → Prop} (hP : ∀ ω' : Om, Sc ω0 ω' → P none ω') : ∀ (a5 : Int32), ¬ a5 < 0 → ∀ (a4 : Int32) (ω : Om), Sc ω0 ω → me_W 14 113 [some (.ref 20), some (.ref 11), none, none, some (.int a4), some (.int a5), none, none] [] ω P := by
  have key : ∀ n b (a4 : Int32) (ω : Om), b + n = 7 → Sc ω0 ω → me_W 14 113 [some (.ref 20), some (.ref 11), none, none, some (.int a4), some (.int (nI b)), none, none] [] ω P := by
    intro n
    induction n with
    | zero =>
      intro b a4 ω hb hs
      exact vl_14_113 ω a4 (nI b) (br_t (by rw [show b = 7 by omega]; decide) (hP ω hs))
    | succ n ih =>
      intro b a4 ω hb hs
      exact vl_14_113 ω a4 (nI b) (br_f (nI_ge (b := 7) (by omega) (by decide)) (sl_14_123 (by omega) (fun ω' hs' => ih (b + 1) a4 ω' (by omega) hs') b 0 ω (by omega) hs))
  intro a5 h5 a4 ω hs
  obtain ⟨b, hb, rfl⟩ := nI_of h5
  by_cases h7 : b < 7
  · exact key (7 - b) b a4 ω (by omega) hs
  · exact vl_14_113 ω a4 (nI b) (br_t (nI_le (a := 7) (by omega) hb) (hP ω hs))
