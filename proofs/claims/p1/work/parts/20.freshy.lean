/-! the class's queries in a new world: nothing is seen but zeros -/
theorem Ct_I {z : Nat} {as : List Value} {ω : Om} {R : Int32} {M : Om → Prop} (h : me_CtI z as ω (fun v ω' => v = R ∧ M ω')) : me_Ct z as ω (fun x ω' => x = some (.int R) ∧ M ω') := me_Ct.mono h (by rintro v ω' ⟨x, rfl, rfl, h2⟩; exact ⟨rfl, h2⟩)
theorem Ct_J {z : Nat} {as : List Value} {ω : Om} {R : Int64} {M : Om → Prop} (h : me_CtJ z as ω (fun v ω' => v = R ∧ M ω')) : me_Ct z as ω (fun x ω' => x = some (.long R) ∧ M ω') := me_Ct.mono h (by rintro v ω' ⟨x, rfl, rfl, h2⟩; exact ⟨rfl, h2⟩)
theorem f14 {ω : Om} (hF : Fr ω) {a b : Int32} {Q : Om → Prop} (h : ∀ ω', Fr ω' → Q ω') : me_CtV 14 [.ref 20, .ref 11, .int a, .int b] ω Q := by
  have kc : ∀ (n j : Nat) (k : Nat) (c : Int32), j + n = k → k < 7 → (∀ ω', Fr ω' → me_W 14 113 [some (.ref 20), some (.ref 11), none, none, some (.int c), some (.int (nI (k + 1))), none, none] [] ω' (fun r ω' => r = none ∧ Q ω')) → ∀ ω', Fr ω' → me_W 14 123 [some (.ref 20), some (.ref 11), none, none, some (.int c), some (.int (nI k)), some (.int (nI j)), none] [] ω' (fun r ω' => r = none ∧ Q ω') := by
    intro n
    induction n with
    | zero =>
      intro j k c hj hk hn ω' hF'
      refine vl_14_123 ω' c (nI k) (nI j) (br_t (by rw [show j = k by omega]; exact Int32.le_refl _) ?_)
      rw [nI_1]
      exact hn ω' hF'
    | succ n ih =>
      intro j k c hj hk hn ω' hF'
      have z1 : ω'.1 24 (nI j).toNatClampNeg = 0 := hF'.1 24 _ (by decide)
      refine vl_14_123 ω' c (nI k) (nI j) (br_f (nI_ge (by omega) (by omega)) ⟨vp_in_nI (by omega) (by decide), vp_in_nI (by omega) (by decide), vp_in_nI (by omega) (by decide), br_t ?_ ?_⟩)
      · have z2 : ω'.1 24 (nI k).toNatClampNeg = 0 := hF'.1 24 _ (by decide)
        rw [z1, z2]
        split
        · decide
        next hc => exact Int32.not_lt.mp hc
      · rw [nI_1]
        exact ih (j + 1) k c (by omega) hk hn ω' hF'
  have kb : ∀ (n k : Nat) (c : Int32), k + n = 7 → ∀ ω', Fr ω' → me_W 14 113 [some (.ref 20), some (.ref 11), none, none, some (.int c), some (.int (nI k)), none, none] [] ω' (fun r ω' => r = none ∧ Q ω') := by
    intro n
    induction n with
    | zero =>
      intro k c hk ω' hF'
      exact vl_14_113 ω' c (nI k) (br_t (by rw [show k = 7 by omega]; decide) ⟨rfl, h ω' hF'⟩)
    | succ n ih =>
      intro k c hk ω' hF'
      exact vl_14_113 ω' c (nI k) (br_f (nI_ge (b := 7) (by omega) (by decide)) (kc k 0 k c (by omega) (by omega) (fun ω2 hF2 => ih (k + 1) c (by omega) ω2 hF2) ω' hF'))
  have ka : ∀ (n k : Nat) (c : Int32), k + n = 7 → ∀ ω', Fr ω' → me_W 14 15 [some (.ref 20), some (.ref 11), some (.int a), some (.int b), some (.int c), some (.int (nI k)), none, none] [] ω' (fun r ω' => r = none ∧ Q ω') := by
    intro n
    induction n with
    | zero =>
      intro k c hk ω' hF'
      exact vl_14_15 ω' a b c (nI k) (br_t (by rw [show k = 7 by omega]; decide) (kb 6 1 c rfl ω' hF'))
    | succ n ih =>
      intro k c hk ω' hF'
      refine vl_14_15 ω' a b c (nI k) (br_f (nI_ge (b := 7) (by omega) (by decide)) (f20 hF'.sz (br_t rfl (br_t rfl ⟨vp_in_nI (by omega) (by decide), vp_in_nI (by omega) (by decide), br_t ?_ ?_⟩))))
      · show upd (ω'.1 24) (nI k).toNatClampNeg 0 (nI k).toNatClampNeg ≤ 0
        rw [pk_us]
        decide
      · rw [nI_1]
        exact ih (k + 1) c (by omega) _ (Fr_ui hF' (fun _ => rfl))
  refine vc_14 ω a b (t26 (fun x hx _ => ka 7 0 _ rfl _ (Fr_ui hF (fun _ => rfl))) (fun _ => ka 7 0 _ rfl _ (Fr_ui hF (fun _ => rfl))))
theorem f16p {ω : Om} (hF : Fr ω) {a b : Int32} {c : Int64} {Q : Int64 → Om → Prop} (h : ∀ ω', Fr ω' → Q 0 ω') : me_CtJ 16 [.ref 20, .ref 25, .int a, .int b, .long c] ω Q := by
  have hF2 : Fr (ui ω 20 5 0) := Fr_ui hF (fun _ => rfl)
  refine vc_16p ω a b c (f58p hF (vl_16p_16 _ a b c 0 0 (br_t ?_ ⟨_, rfl, h _ hF2⟩)))
  rw [hF2.1 20 4 (by decide)]
  decide
theorem f16w {ω : Om} (hF : Fr ω) {a b : Int32} {c : Int64} {Q : Int64 → Om → Prop} (h : ∀ ω', Fr ω' → Q 0 ω') : me_CtJ 16 [.ref 20, .ref 27, .int a, .int b, .long c] ω Q := by
  have hF2 : Fr (ui ω 20 5 0) := Fr_ui hF (fun _ => rfl)
  refine vc_16w ω a b c (f58w hF (vl_16w_16 _ a b c 0 0 (br_t ?_ ⟨_, rfl, h _ hF2⟩)))
  rw [hF2.1 20 4 (by decide)]
  decide
/-- a power of ten: some number, in any case -/
theorem t95 {ω : Om} {a : Int32} {Q : Int64 → Om → Prop} (h : ∀ v, Q v ω) : me_CtJ 95 [.int a] ω Q :=
  vc_95 ω a ⟨fun _ => ⟨_, rfl, h _⟩, fun c => ⟨fun _ => ⟨_, rfl, h _⟩, fun c2 => ⟨in_mk c c2 rfl (by decide), _, rfl, h _⟩⟩⟩
theorem t95n {ω : Om} {a : Int32} {k : Nat} (hk : k < 7) (ha : a = nI k) {Q : Int64 → Om → Prop} (h : Q (Int64.ofNat (10 ^ k)) ω) : me_CtJ 95 [.int a] ω Q := by
  subst ha
  refine vc_95 ω (nI k) (br_f (nI_pos (by omega)) (br_f (nI_ge (b := 7) (by omega) (by decide)) ⟨vp_in_nI hk (by decide), _, rfl, ?_⟩))
  rw [nI_clamp (by omega)]
  exact h
theorem t96n {ω : Om} {a : Int32} {k : Nat} (hk : k < 7) (ha : a = nI k) {Q : Int32 → Om → Prop} (h : Q (Int32.ofNat (5 ^ k)) ω) : me_CtI 96 [.int a] ω Q := by
  subst ha
  refine vc_96 ω (nI k) (br_f (nI_pos (by omega)) (br_f (nI_ge (b := 7) (by omega) (by decide)) ⟨vp_in_nI hk (by decide), _, rfl, ?_⟩))
  rw [nI_clamp (by omega)]
  exact h
theorem f110 {ω : Om} (hF : Fr ω) {a b c : Int32} {Q : Int32 → Om → Prop} (h : ∀ ω', Fr ω' → Q 0 ω') : me_CtI 110 [.ref 0, .int a, .int b, .int c] ω Q := by
  refine vc_110 ω a b c (f14 hF (fun ω1 h1 => t95 (fun v => f16p h1 (fun ω2 h2 => ⟨_, rfl, ?_⟩))))
  rw [h2.1 20 5 (by decide)]
  exact h ω2 h2
/-- nothing out of a million, in lowest terms -/
theorem f102 {ω : Om} {c : Int32} {Q : Int64 → Om → Prop} (h0 : c = 0 → Q 0 ω) (h1 : ¬ c = 0 → Q 1 ω) : me_CtJ 102 [.long 0, .long (Int64.ofNat (10 ^ 6)), .int c] ω Q := by
  refine vc_102 ω 0 (Int64.ofNat (10 ^ 6)) c (vc_101 ω (Int64.ofNat (10 ^ 6)) 0 (vl_101_9 ω (Int64.ofNat (10 ^ 6)) 0 0 (br_f (by decide) (br_t (by decide) ⟨_, rfl, br_t (by decide) ⟨fun c0 => ⟨by decide, _, rfl, ?_⟩, fun c0 => ⟨by decide, _, rfl, ?_⟩⟩⟩))))
  · rw [show (0 : Int64) / Int64.ofNat (10 ^ 6) = 0 by decide]
    exact h0 c0
  · rw [show Int64.ofNat (10 ^ 6) / Int64.ofNat (10 ^ 6) = 1 by decide]
    exact h1 c0
theorem f77 {ω : Om} (hF : Fr ω) {c : Int32} {Q : Int64 → Om → Prop} (hc : vp_in c 2) (h : ∀ ω', Fr ω' → (c = 0 → Q 0 ω') ∧ (¬ c = 0 → Q 1 ω')) : me_CtJ 77 [.ref 0, .int c] ω Q := by
  refine vc_77 ω c (t94 (fun _ => br_f (by decide) (f108 hF (fun ω1 h1 => f104 h1.sz (f58p h1 (t95n (k := 6) (by decide) ?_ (f102 (fun c0 => ⟨_, rfl, (h ω1 h1).1 c0⟩) (fun c0 => ⟨_, rfl, (h ω1 h1).2 c0⟩))))))) (fun n => absurd hc n))
  rw [h1.hr]
  decide
theorem f78 {ω : Om} (hF : Fr ω) {c : Int32} {Q : Int32 → Om → Prop} (hc : vp_in c 4) (h : ∀ ω', Fr ω' → Q 0 ω') : me_CtI 78 [.ref 0, .int c] ω Q := by
  refine vc_78 ω c (t92 (fun _ => br_f (by decide) (br_t ?_ (f108 hF (fun ω1 h1 => f104 h1.sz (f110 h1 (fun ω2 h2 => ⟨_, rfl, h ω2 h2⟩)))))) (fun n => absurd hc n))
  rw [hF.hr]
  decide
theorem f112 {ω : Om} (hF : Fr ω) {a : Int32} {Q : Om → Prop} (h : ∀ ω', Fr ω' → Q ω') : me_CtV 112 [.ref 0, .int a] ω Q :=
  vc_112 ω a (vl_112_2 ω a 0 (f28 hF.sz (br_f (by decide) (br_f (by decide) (f58w hF (f59w hF rfl (fun ω1 h1 => vl_112_2 ω1 a (0 + 1) (f28 h1.sz (br_t (by decide) ⟨rfl, h ω1 h1⟩)))))))))
theorem f113 {ω : Om} (hF : Fr ω) {a b : Int32} {Q : Om → Prop} (h : ∀ ω', Fr ω' → Q ω') : me_CtV 113 [.ref 0, .int a, .int b] ω Q :=
  vc_113 ω a b (f14 hF (fun ω0 h0 => vl_113_15 ω0 a 0 (f28 h0.sz (br_f (by decide) (br_f (by decide) (f16w h0 (fun ω1 h1 => f59w h1 rfl (fun ω2 h2 => vl_113_15 ω2 a (0 + 1) (f28 h2.sz (br_t (by decide) ⟨rfl, h ω2 h2⟩))))))))))
theorem f79 {ω : Om} (hF : Fr ω) {Q : Int32 → Om → Prop} (h : ∀ ω', Fr ω' → Q 0 ω') : me_CtI 79 [.ref 0] ω Q := by
  have kb : ∀ (n j k : Nat), j + n = 4 → (∀ ω', Fr ω' → me_W 79 11 [some (.ref 0), some (.int (nI k + (-1))), none] [] ω' (fun r ω' => ∃ v, r = some (.int v) ∧ Q v ω')) → ∀ ω', Fr ω' → me_W 79 33 [some (.ref 0), some (.int (nI k)), some (.int (nI j))] [] ω' (fun r ω' => ∃ v, r = some (.int v) ∧ Q v ω') := by
    intro n
    induction n with
    | zero =>
      intro j k hj hn ω' hF'
      exact vl_79_33 ω' (nI k) (nI j) (br_t (by rw [show j = 4 by omega]; decide) (hn ω' hF'))
    | succ n ih =>
      intro j k hj hn ω' hF'
      refine vl_79_33 ω' (nI k) (nI j) (br_f (nI_ge (b := 4) (by omega) (by decide)) (f2 hF' (br_t (by decide) ?_)))
      rw [nI_1]
      exact ih (j + 1) k (by omega) hn ω' hF'
  have ka : ∀ (k : Nat), k < 7 → ∀ ω', Fr ω' → me_W 79 11 [some (.ref 0), some (.int (nI k + (-1))), none] [] ω' (fun r ω' => ∃ v, r = some (.int v) ∧ Q v ω') := by
    intro k
    induction k with
    | zero =>
      intro _ ω' hF'
      exact vl_79_11 ω' (nI 0 + (-1)) (br_t (by rw [hF'.hr]; decide) (f104 hF'.sz (f58w hF' ⟨_, rfl, h ω' hF'⟩)))
    | succ k ih =>
      intro hk ω' hF'
      rw [pk_m1]
      exact vl_79_11 ω' (nI k) (br_f (by rw [hF'.hr]; exact nI_pos (by omega)) (br_f (nI_pos (by omega)) (f112 hF' (fun ω2 h2 => kb 4 0 k rfl (ih (by omega)) ω2 h2))))
  exact vc_79 ω (f61w hF (fun ω1 h1 => ka 6 (by decide) ω1 h1))
theorem f97 {ω : Om} {a : Int32} {k : Nat} {b : Int32} (hk : k < 7) (hb : b = nI k) {Q : Int32 → Om → Prop} (h : ∀ v, Q v ω) : me_CtI 97 [.int a, .int b] ω Q := by
  refine vc_97 ω a b (t96n hk hb ?_)
  have hp : ∀ k, k < 7 → ¬ Int32.ofNat (5 ^ k) ≤ 0 ∧ ¬ Int32.ofNat (5 ^ k) = 0 := by decide
  exact br_f (hp k hk).1 ⟨(hp k hk).2, by decide, _, rfl, h _⟩
theorem f80 {ω : Om} (hF : Fr ω) {c : Int32} {Q : Int32 → Om → Prop} (hc : vp_in c 15625) (h : ∀ ω', Fr ω' → Q 0 ω') : me_CtI 80 [.ref 0, .int c] ω Q := by
  have ka : ∀ (k : Nat), k < 7 → ∀ ω', Fr ω' → me_W 80 35 [some (.ref 0), some (.int c), some (.int (nI k + (-1))), none] [] ω' (fun r ω' => ∃ v, r = some (.int v) ∧ Q v ω') := by
    intro k
    induction k with
    | zero =>
      intro _ ω' hF'
      exact vl_80_35 ω' c (nI 0 + (-1)) (br_t (by rw [hF'.hr]; decide) (f104 hF'.sz (f58w hF' ⟨_, rfl, h ω' hF'⟩)))
    | succ k ih =>
      intro hk ω' hF'
      rw [pk_m1]
      refine vl_80_35 ω' c (nI k) (br_f (by rw [hF'.hr]; exact nI_pos (by omega)) (br_f (nI_pos (by omega)) (f97 (k := k) (by omega) (by rw [hF'.hr, Int32.sub_zero]) (fun v => f112 hF' (fun ω2 h2 => ⟨fun _ => ih (by omega) ω2 h2, fun _ => f113 h2 (fun ω3 h3 => ih (by omega) ω3 h3)⟩)))))
  obtain ⟨a, ha, rfl⟩ := vp_in_of hc (by decide)
  refine vc_80 ω (nI a) (br_f (nI_pos (by omega)) (t96n (k := 6) (by decide) (by rw [hF.hr]; decide) (br_t (nI_lt (b := 15625) ha (by decide)) (f61w hF (fun ω1 h1 => ka 6 (by decide) ω1 h1)))))
theorem f83 {ω : Om} (hF : Fr ω) {c : Int32} {Q : Int32 → Om → Prop} (hc : vp_in c 1000) (h : ∀ ω', Fr ω' → Q 0 ω') : me_CtI 83 [.ref 0, .int c] ω Q := by
  obtain ⟨a, ha, rfl⟩ := vp_in_of hc (by decide)
  refine vc_83 ω (nI a) (br_f (nI_pos (by omega)) (br_t (nI_le (b := 999) (by omega) (by decide)) (f108 hF (fun ω1 h1 => f28 h1.sz (vl_83_31 ω1 (nI a) 0 0 1 (br_t (by decide) ⟨_, rfl, h ω1 h1⟩))))))
