/-! THE CLASS, FRESH: each call on a new object -/
def h50 : Nat → Int32 := upd (upd (upd (upd (fun _ => 0) 0 50) 1 50) 2 50) 3 50
/-- the world of two new objects -/
def om0 : Om := (fun i => if i = 15 then h50 else if i = 38 then h50 else if i = 17 then upd (fun _ => 0) 2 (-1) else if i = 29 then upd (fun _ => 0) 30 (-1) else fun _ => 0, fun _ _ => 0)
/-- the reference's cells are as new -/
def Mf (ω : Om) : Prop := ∀ i k, 29 ≤ i → ω.1 i k = om0.1 i k ∧ ω.2 i k = 0
theorem Mf_ui {ω : Om} (h : Mf ω) {i k : Nat} {v : Int32} (hi : i < 29) : Mf (ui ω i k v) := by
  intro a b ha
  have e : (ui ω i k v).1 a = ω.1 a := if_neg (by omega)
  exact ⟨by rw [e]; exact (h a b ha).1, (h a b ha).2⟩
theorem Mf_ul {ω : Om} (h : Mf ω) {i k : Nat} {v : Int64} (hi : i < 29) : Mf (ul ω i k v) := by
  intro a b ha
  have e : (ul ω i k v).2 a = ω.2 a := if_neg (by omega)
  exact ⟨(h a b ha).1, by rw [e]; exact (h a b ha).2⟩
theorem Mf_ur {ω : Om} (h : Mf ω) {i : Nat} {f : Nat → Int32} (hi : i < 29) : Mf (ur ω i f) := by
  intro a b ha
  have e : (ur ω i f).1 a = ω.1 a := if_neg (by omega)
  exact ⟨by rw [e]; exact (h a b ha).1, (h a b ha).2⟩
theorem Mf.o : Mf om0 := fun _ _ _ => ⟨rfl, rfl⟩
/-- all as new, but that a plan may be ready -/
def Fr (ω : Om) : Prop := (∀ i k, i ≠ 0 → ω.1 i k = om0.1 i k) ∧ ∀ i k, ω.2 i k = 0
theorem Fr.o : Fr om0 := ⟨fun _ _ _ => rfl, fun _ _ => rfl⟩
theorem Fr.m {ω : Om} (h : Fr ω) : Mf ω := fun i k hi => ⟨h.1 i k (by omega), h.2 i k⟩
theorem Fr_ui {ω : Om} (h : Fr ω) {i k : Nat} {v : Int32} (hv : i ≠ 0 → v = om0.1 i k) : Fr (ui ω i k v) := by
  refine ⟨fun a b ha => ?_, h.2⟩
  show (if a = i then upd (ω.1 i) k v else ω.1 a) b = _
  by_cases e : a = i
  · rw [if_pos e]
    subst e
    unfold upd
    by_cases e2 : b = k
    · rw [if_pos e2, hv ha, e2]
    · rw [if_neg e2]; exact h.1 a b ha
  · rw [if_neg e]; exact h.1 a b ha
theorem Fr_ul {ω : Om} (h : Fr ω) {i k : Nat} {v : Int64} (hv : v = 0) : Fr (ul ω i k v) := by
  refine ⟨h.1, fun a b => ?_⟩
  show (if a = i then vp_updL (ω.2 i) k v else ω.2 a) b = _
  by_cases e : a = i
  · rw [if_pos e]
    subst e
    unfold vp_updL
    by_cases e2 : b = k
    · rw [if_pos e2, hv]
    · rw [if_neg e2]; exact h.2 a b
  · rw [if_neg e]; exact h.2 a b
theorem ix4 (a b : Nat) : nI a * (4 : Int32) + nI b = nI (a * 4 + b) := by rw [show (4 : Int32) = nI 4 from rfl, pk_mul, nI_add]
theorem ix4' (a b : Nat) : (4 : Int32) * nI a + nI b = nI (4 * a + b) := by rw [show (4 : Int32) = nI 4 from rfl, pk_mul, nI_add]
theorem ix128 (a b : Nat) : nI a * (128 : Int32) + nI b = nI (a * 128 + b) := by rw [show (128 : Int32) = nI 128 from rfl, pk_mul, nI_add]
theorem t2 {ω : Om} {h t : Int32} {Q : Int32 → Om → Prop} (h1 : ∀ a b : Nat, a < 6 → b < 4 → h = nI a → t = nI b → Q (ω.1 8 (a * 4 + b)) ω) (h0 : ¬ (vp_in h 6 ∧ vp_in t 4) → Q 0 ω) : me_CtI 2 [.ref 7, .int h, .int t] ω Q := by
  refine vc_2 ω h t (t91 (fun c => br_f (by decide) (t92 (fun c2 => br_f (by decide) ?_) (fun c2 => br_t rfl ⟨_, rfl, h0 (fun q => c2 q.2)⟩))) (fun c => br_t rfl ⟨_, rfl, h0 (fun q => c q.1)⟩))
  obtain ⟨a, ha, rfl⟩ := vp_in_of c (by decide)
  obtain ⟨b, hb, rfl⟩ := vp_in_of c2 (by decide)
  rw [ix4]
  refine ⟨vp_in_nI (by omega) (by decide), _, rfl, ?_⟩
  rw [nI_clamp (by omega)]
  exact h1 a b ha hb rfl rfl
/-- in a new world every chance is 0 -/
theorem f2 {ω : Om} (hF : Fr ω) {h t : Int32} {Q : Int32 → Om → Prop} (hq : Q 0 ω) : me_CtI 2 [.ref 7, .int h, .int t] ω Q := by
  refine t2 (fun a b ha hb _ _ => ?_) (fun _ => hq)
  rw [hF.1 8 _ (by decide)]
  exact hq
theorem t62 {ω : Om} {a b : Int32} {Q : Int32 → Om → Prop} (h1 : vp_in a 7 → vp_in b 128 → Q 1 ω) (h0 : ¬ (vp_in a 7 ∧ vp_in b 128) → Q 0 ω) : me_CtI 62 [.int a, .int b] ω Q :=
  vc_62 ω a b ⟨fun c => ⟨Or.inl rfl, _, rfl, h0 (fun q => in_no1 c q.1)⟩, fun c => ⟨fun c2 => ⟨Or.inl rfl, _, rfl, h0 (fun q => in_no3 c2 rfl (by decide) q.1)⟩, fun c2 => ⟨fun c3 => ⟨Or.inl rfl, _, rfl, h0 (fun q => in_no1 c3 q.2)⟩, fun c3 => ⟨fun c4 => ⟨Or.inl rfl, _, rfl, h0 (fun q => in_no2 c4 rfl (by decide) q.2)⟩, fun c4 => ⟨Or.inr rfl, _, rfl, h1 (in_mkl c c2 rfl (by decide)) (in_mk c3 c4 rfl (by decide))⟩⟩⟩⟩⟩
theorem f58p {ω : Om} (hF : Fr ω) {a b : Int32} {Q : Int64 → Om → Prop} (h : Q 0 ω) : me_CtJ 58 [.ref 25, .int a, .int b] ω Q := by
  refine vc_58p ω a b (t62 (fun c c2 => br_f (by decide) ?_) (fun _ => br_t rfl ⟨_, rfl, h⟩))
  obtain ⟨a, ha, rfl⟩ := vp_in_of c (by decide)
  obtain ⟨b, hb, rfl⟩ := vp_in_of c2 (by decide)
  rw [ix128]
  refine ⟨vp_in_nI (by omega) (by decide), _, rfl, ?_⟩
  rw [hF.2]
  exact h
theorem f59p {ω : Om} (hF : Fr ω) {a b : Int32} {v : Int64} (hv : v = 0) {Q : Om → Prop} (h : ∀ ω', Fr ω' → Q ω') : me_CtV 59 [.ref 25, .int a, .int b, .long v] ω Q := by
  refine vc_59p ω a b v (t62 (fun c c2 => br_f (by decide) ?_) (fun _ => br_t rfl ⟨rfl, h ω hF⟩))
  obtain ⟨a, ha, rfl⟩ := vp_in_of c (by decide)
  obtain ⟨b, hb, rfl⟩ := vp_in_of c2 (by decide)
  rw [ix128]
  exact ⟨vp_in_nI (by omega) (by decide), rfl, h _ (Fr_ul hF hv)⟩
theorem f60p {ω : Om} (hF : Fr ω) {a b : Int32} {v : Int64} (hv : v = 0) {Q : Om → Prop} (h : ∀ ω', Fr ω' → Q ω') : me_CtV 60 [.ref 25, .int a, .int b, .long v] ω Q := by
  subst hv
  exact vc_60p ω a b 0 (f58p hF (f59p hF (by decide) (fun ω' hF' => ⟨rfl, h ω' hF'⟩)))
theorem f61p {ω : Om} (hF : Fr ω) {a : Int32} {Q : Om → Prop} (h : ∀ ω', Fr ω' → Q ω') : me_CtV 61 [.ref 25, .int a] ω Q := by
  have key : ∀ n j (ω : Om), j + n = 128 → Fr ω → me_W 61 2 [some (.ref 25), some (.int a), some (.int (nI j))] [] ω (fun r ω' => r = none ∧ Q ω') := by
    intro n
    induction n with
    | zero =>
      intro j ω hj hF
      exact vl_61p_2 ω a (nI j) (br_t (by rw [show j = 128 by omega]; decide) ⟨rfl, h ω hF⟩)
    | succ n ih =>
      intro j ω hj hF
      refine vl_61p_2 ω a (nI j) (br_f (nI_ge (b := 128) (by omega) (by decide)) (f59p hF rfl (fun ω' hF' => ?_)))
      rw [nI_1]
      exact ih (j + 1) ω' (by omega) hF'
  exact vc_61p ω a (key 128 0 ω rfl hF)
theorem f58w {ω : Om} (hF : Fr ω) {a b : Int32} {Q : Int64 → Om → Prop} (h : Q 0 ω) : me_CtJ 58 [.ref 27, .int a, .int b] ω Q := by
  refine vc_58w ω a b (t62 (fun c c2 => br_f (by decide) ?_) (fun _ => br_t rfl ⟨_, rfl, h⟩))
  obtain ⟨a, ha, rfl⟩ := vp_in_of c (by decide)
  obtain ⟨b, hb, rfl⟩ := vp_in_of c2 (by decide)
  rw [ix128]
  refine ⟨vp_in_nI (by omega) (by decide), _, rfl, ?_⟩
  rw [hF.2]
  exact h
theorem f59w {ω : Om} (hF : Fr ω) {a b : Int32} {v : Int64} (hv : v = 0) {Q : Om → Prop} (h : ∀ ω', Fr ω' → Q ω') : me_CtV 59 [.ref 27, .int a, .int b, .long v] ω Q := by
  refine vc_59w ω a b v (t62 (fun c c2 => br_f (by decide) ?_) (fun _ => br_t rfl ⟨rfl, h ω hF⟩))
  obtain ⟨a, ha, rfl⟩ := vp_in_of c (by decide)
  obtain ⟨b, hb, rfl⟩ := vp_in_of c2 (by decide)
  rw [ix128]
  exact ⟨vp_in_nI (by omega) (by decide), rfl, h _ (Fr_ul hF hv)⟩
theorem f60w {ω : Om} (hF : Fr ω) {a b : Int32} {v : Int64} (hv : v = 0) {Q : Om → Prop} (h : ∀ ω', Fr ω' → Q ω') : me_CtV 60 [.ref 27, .int a, .int b, .long v] ω Q := by
  subst hv
  exact vc_60w ω a b 0 (f58w hF (f59w hF (by decide) (fun ω' hF' => ⟨rfl, h ω' hF'⟩)))
theorem f61w {ω : Om} (hF : Fr ω) {a : Int32} {Q : Om → Prop} (h : ∀ ω', Fr ω' → Q ω') : me_CtV 61 [.ref 27, .int a] ω Q := by
  have key : ∀ n j (ω : Om), j + n = 128 → Fr ω → me_W 61 2 [some (.ref 27), some (.int a), some (.int (nI j))] [] ω (fun r ω' => r = none ∧ Q ω') := by
    intro n
    induction n with
    | zero =>
      intro j ω hj hF
      exact vl_61w_2 ω a (nI j) (br_t (by rw [show j = 128 by omega]; decide) ⟨rfl, h ω hF⟩)
    | succ n ih =>
      intro j ω hj hF
      refine vl_61w_2 ω a (nI j) (br_f (nI_ge (b := 128) (by omega) (by decide)) (f59w hF rfl (fun ω' hF' => ?_)))
      rw [nI_1]
      exact ih (j + 1) ω' (by omega) hF'
  exact vc_61w ω a (key 128 0 ω rfl hF)
/-- nobody sleeps in a new house -/
theorem Fr.sz {ω : Om} (h : Fr ω) : ω.1 11 4 = 0 := h.1 11 4 (by decide)
theorem Fr.hr {ω : Om} (h : Fr ω) : ω.1 16 0 = 0 := h.1 16 0 (by decide)
theorem Fr.wk {ω : Om} (h : Fr ω) : ω.1 16 1 = 0 := h.1 16 1 (by decide)
theorem Fr.rl {ω : Om} (h : Fr ω) : ω.1 9 1 = 0 := h.1 9 1 (by decide)
theorem Fr.pg {ω : Om} (h : Fr ω) : ω.1 1 1 = 0 := h.1 1 1 (by decide)
theorem f20 {ω : Om} (hz : ω.1 11 4 = 0) {s : Int32} {Q : Int32 → Om → Prop} (h : Q 0 ω) : me_CtI 20 [.ref 11, .int s] ω Q := by
  refine vc_20 ω s ⟨fun c => ⟨Or.inl rfl, _, rfl, h⟩, fun c => ⟨fun c2 => ⟨Or.inl rfl, _, rfl, h⟩, fun c2 => absurd ?_ c2⟩⟩
  rw [hz]
  exact Int32.not_lt.mp c
theorem f28 {ω : Om} (hz : ω.1 11 4 = 0) {Q : Int32 → Om → Prop} (h : Q 0 ω) : me_CtI 28 [.ref 11] ω Q := by
  refine vc_28 ω ⟨_, rfl, ?_⟩
  rw [hz]
  exact h
theorem f104 {ω : Om} (hz : ω.1 11 4 = 0) {Q : Int32 → Om → Prop} (h : Q 0 ω) : me_CtI 104 [.ref 0] ω Q := by
  refine vc_104 ω (f28 hz ⟨_, rfl, ?_⟩)
  rw [show (0 : Int32) &&& (ω.1 16 1 ^^^ (-1)) = 0 from Int32.zero_and]
  exact h
theorem t26 {ω : Om} {t : Int32} {Q : Int32 → Om → Prop} (h1 : ∀ a : Nat, a < 4 → t = nI a → Q (ω.1 15 a) ω) (h0 : ¬ vp_in t 4 → Q 0 ω) : me_CtI 26 [.ref 11, .int t] ω Q := by
  refine vc_26 ω t (t92 (fun c => br_f (by decide) ?_) (fun c => br_t rfl ⟨_, rfl, h0 c⟩))
  obtain ⟨a, ha, rfl⟩ := vp_in_of c (by decide)
  refine ⟨c, _, rfl, ?_⟩
  rw [nI_clamp (by omega)]
  exact h1 a ha rfl
theorem t94 {ω : Om} {t : Int32} {Q : Int32 → Om → Prop} (h1 : vp_in t 2 → Q 1 ω) (h0 : ¬ vp_in t 2 → Q 0 ω) : me_CtI 94 [.int t] ω Q := by
  refine vc_94 ω t ⟨fun c => ⟨Or.inr rfl, _, rfl, h1 ?_⟩, fun c => ⟨fun c2 => ⟨Or.inr rfl, _, rfl, h1 ?_⟩, fun c2 => ⟨Or.inl rfl, _, rfl, h0 ?_⟩⟩⟩
  · rw [c]; exact vp_in_nI (n := 0) (by decide) (by decide)
  · rw [c2]; exact vp_in_nI (n := 1) (by decide) (by decide)
  · intro q
    obtain ⟨a, ha, rfl⟩ := vp_in_of q (by decide)
    rcases (show a = 0 ∨ a = 1 by omega) with rfl | rfl
    · exact c rfl
    · exact c2 rfl
theorem Q_0_1 {x : Int64} (h : x = 0) : x = 0 := h
/-- makePlan in a new world -/
theorem f108 {ω : Om} (hF : Fr ω) {Q : Om → Prop} (h : ∀ ω', Fr ω' → Q ω') : me_CtV 108 [.ref 0] ω Q := by
  have kc : ∀ (k : Nat) (j : Nat) (r : Int32), (∀ ω', Fr ω' → me_W 108 10 [some (.ref 0), some (.int (nI k + (-1))), none, none, none] [] ω' (fun r ω' => r = none ∧ Q ω')) → ∀ ω', Fr ω' → j = 1 ∨ j = 0 → me_W 108 70 [some (.ref 0), some (.int (nI k)), some (.int r), some (.int (nI j)), none] [] ω' (fun r ω' => r = none ∧ Q ω') := by
    intro k j r hn
    have h1 : ∀ ω', Fr ω' → me_W 108 70 [some (.ref 0), some (.int (nI k)), some (.int r), some (.int (nI 1)), none] [] ω' (fun r ω' => r = none ∧ Q ω') := fun ω' hF' => vl_108_70 ω' (nI k) r (nI 1) (f28 hF'.sz (br_t (by decide) (hn ω' hF')))
    intro ω' hF' hj
    rcases hj with rfl | rfl
    · exact h1 ω' hF'
    · exact vl_108_70 ω' (nI k) r (nI 0) (f28 hF'.sz (br_f (by decide) (br_f (by decide) (f58p hF' (f60p hF' (by rw [Int64.mul_zero]) (fun ω2 hF2 => h1 ω2 hF2))))))
  have kb : ∀ (n j k : Nat) (r : Int32), j + n = 4 → (∀ ω', Fr ω' → me_W 108 10 [some (.ref 0), some (.int (nI k + (-1))), none, none, none] [] ω' (fun r ω' => r = none ∧ Q ω')) → ∀ ω', Fr ω' → me_W 108 27 [some (.ref 0), some (.int (nI k)), some (.int r), some (.int (nI j)), none] [] ω' (fun r ω' => r = none ∧ Q ω') := by
    intro n
    induction n with
    | zero =>
      intro j k r hj hn ω' hF'
      exact vl_108_27 ω' (nI k) r (nI j) (br_t (by rw [show j = 4 by omega]; decide) (kc k 0 r hn ω' hF' (Or.inr rfl)))
    | succ n ih =>
      intro j k r hj hn ω' hF'
      refine vl_108_27 ω' (nI k) r (nI j) (br_f (nI_ge (b := 4) (by omega) (by decide)) (f2 hF' (br_t (by decide) ?_)))
      rw [nI_1]
      exact ih (j + 1) k r (by omega) hn ω' hF'
  have ka : ∀ (k : Nat), k < 7 → ∀ ω', Fr ω' → me_W 108 10 [some (.ref 0), some (.int (nI k + (-1))), none, none, none] [] ω' (fun r ω' => r = none ∧ Q ω') := by
    intro k
    induction k with
    | zero =>
      intro _ ω' hF'
      exact vl_108_10 ω' (nI 0 + (-1)) (br_t (by decide) ⟨Or.inr rfl, rfl, h _ (Fr_ui hF' (fun c => absurd rfl c))⟩)
    | succ k ih =>
      intro hk ω' hF'
      rw [pk_m1]
      exact vl_108_10 ω' (nI k) (br_f (nI_pos (by omega)) (f61p hF' (fun ω2 hF2 => kb 4 0 k 10 rfl (ih (by omega)) ω2 hF2)))
  refine vc_108 ω ⟨fun _ => ka 6 (by decide) ω hF, fun _ => ⟨rfl, h ω hF⟩⟩
