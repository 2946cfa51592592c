section GRN22
variable {hx : Int64}
theorem g150 {ω : Om} (hG : Gr hx ω) {t : Int32} (ht : vp_in t 4) {Q : Int32 → Om → Prop} (h : Q 0 ω) : me_CtI 150 [.ref 29, .int t, .int 0, .int 0] ω Q := by
  have s1 : ¬ (1 : Int32) <<< (ω.1 29 15 &&& 31) ≤ 0 := by rw [hG.sl]; decide
  have s2 : (1 : Int32) <<< (ω.1 29 15 &&& 31) ≤ 0 + 1 := by rw [hG.sl]; decide
  have skip : ∀ m : Int32, ¬ (3 : Int32) ≤ m → ¬ (0 : Int32) = m → me_W 150 11 [some (.ref 29), some (.int t), some (.int 0), some (.int 0), some (.int 0), some (.long 0), none, some (.int (m + 1)), none, none, none] [] ω (fun r ω' => ∃ v, r = some (.int v) ∧ Q v ω') → me_W 150 11 [some (.ref 29), some (.int t), some (.int 0), some (.int 0), some (.int 0), some (.long 0), none, some (.int m), none, none, none] [] ω (fun r ω' => ∃ v, r = some (.int v) ∧ Q v ω') := fun m h3 h0 hn =>
    vl_150_11 ω t 0 0 0 0 m (br_f h3 (vl_150_20 ω t 0 0 0 0 m 0 (br_f s1 (g144 (br_f h0 (vl_150_20 ω t 0 0 0 0 m (0 + 1) (br_t s2 hn)))))))
  refine vc_150 ω t 0 0 (vl_150_11 ω t 0 0 0 (-1) 0 (br_f (by decide) (vl_150_20 ω t 0 0 0 (-1) 0 0 (br_f s1 (g144 (br_t rfl (g145 hG.sl (br_f (by decide) (g146 hG ht ⟨vp_in_nI (n := 5) (by decide) (by decide), g147 hG.sl ⟨vp_in_nI (n := 128) (by decide) (by decide), ?_⟩⟩)))))))))
  rw [show (0 : Int32).toInt64 = 0 from rfl, Int64.zero_mul, Int64.zero_add, hG.2.2.1 39 _ (by decide) (by decide)]
  refine br_f (by decide) (br_f (by decide) (vl_150_20 ω t 0 0 0 0 0 (0 + 1) (br_t s2 (skip (0 + 1) (by decide) (by decide) (skip (0 + 1 + 1) (by decide) (by decide) (vl_150_11 ω t 0 0 0 0 (0 + 1 + 1 + 1) (br_t (by decide) ⟨_, rfl, h⟩)))))))
theorem g156 {ω : Om} (hG : Gr hx ω) {c : Int32} {Q : Int32 → Om → Prop} (hc : vp_in c 4) (h : ∀ ω', Gr hx ω' → Q 0 ω') : me_CtI 156 [.ref 29, .int c] ω Q := by
  refine vc_156 ω c (t123n 4 (by decide) (by decide) (fun _ => br_f (by decide) (br_f (by rw [hG.hr]; decide) (g151 hG (fun ω1 h1 _ => ?_)))) (fun n => absurd hc n))
  rw [h1.hr, h1.wk]
  exact g150 h1 hc ⟨_, rfl, h ω1 h1⟩
theorem g157 {ω : Om} (hG : Gr hx ω) {Q : Int32 → Om → Prop} (h : ∀ ω', Gr hx ω' → Q 0 ω') : me_CtI 157 [.ref 29] ω Q := by
  have kd : ∀ (n j k : Nat), j + n = 4 → k < 6 → (∀ ω', Gr hx ω' → me_W 157 38 [some (.ref 29), some (.int (nI k)), some (.int (nI 1)), none, none, none, none, none] [] ω' (fun r ω' => ∃ v, r = some (.int v) ∧ Q v ω')) → ∀ ω', Gr hx ω' → me_W 157 66 [some (.ref 29), some (.int (nI k)), some (.int (nI 0)), some (.int 0), some (.int (nI j)), none, none, none] [] ω' (fun r ω' => ∃ v, r = some (.int v) ∧ Q v ω') := by
    intro n
    induction n with
    | zero =>
      intro j k hj hk hn ω' h1
      refine vl_157_66 ω' (nI k) (nI 0) 0 (nI j) (br_t (by rw [show j = 4 by omega]; decide) ?_)
      rw [ix128', nI_1]
      exact ⟨vp_in_nI (by omega) (by decide), hn _ (Gr_ui h1 (by decide) rfl)⟩
    | succ n ih =>
      intro j k hj hk hn ω' h1
      have hb : ω'.1 31 (nI (4 * k + j)).toNatClampNeg ≤ 0 := by rw [h1.2.1 31 _ (by decide)]; exact Int32.le_refl _
      have hv : vp_in (nI (4 * k + j)) 24 := vp_in_nI (by omega) (by decide)
      refine vl_157_66 ω' (nI k) (nI 0) 0 (nI j) (br_f (nI_ge (b := 4) (by omega) (by decide)) (vl_157_79 ω' (nI k) (nI 0) 0 (nI j) 100000 0 (br_f (by rw [h1.sl]; decide) ?_)))
      rw [ix4']
      refine ⟨hv, br_t hb (vl_157_79 ω' (nI k) (nI 0) 0 (nI j) 100000 (0 + 1) (br_t (by rw [h1.sl]; decide) ?_))⟩
      rw [ix4', nI_1]
      exact ⟨hv, br_t hb (ih (j + 1) k (by omega) hk hn ω' h1)⟩
  have kc : ∀ (k : Nat), k < 7 → ∀ ω', Gr hx ω' → me_W 157 28 [some (.ref 29), some (.int (nI k + (-1))), none, none, none, none, none, none] [] ω' (fun r ω' => ∃ v, r = some (.int v) ∧ Q v ω') := by
    intro k
    induction k with
    | zero =>
      intro _ ω' h1
      refine vl_157_28 ω' (nI 0 + (-1)) (br_t (by rw [h1.hr]; decide) ?_)
      rw [h1.2.1 41 _ (by decide), h1.hr, h1.wk]
      exact ⟨by unfold vp_in; decide, _, rfl, h ω' h1⟩
    | succ k ih =>
      intro hk ω' h1
      rw [pk_m1]
      refine vl_157_28 ω' (nI k) (br_f (by rw [h1.hr]; exact nI_pos (by omega)) (vl_157_38 ω' (nI k) (nI 0) (br_f (by rw [h1.sl]; decide) ?_)))
      rw [h1.2.1 41 _ (by decide), nI_1, ix128']
      exact ⟨vp_in_nI (by omega) (by decide), kd 4 0 k rfl (by omega) (fun ω2 g1 => vl_157_38 ω2 (nI k) (nI 1) (br_t (by rw [g1.sl]; decide) (ih (by omega) ω2 g1))) ω' h1⟩
  have kb : ∀ (n j : Nat), j + n = 128 → ∀ ω', Gr hx ω' → me_W 157 2 [some (.ref 29), some (.int (nI j)), none, none, none, none, none, none] [] ω' (fun r ω' => ∃ v, r = some (.int v) ∧ Q v ω') := by
    intro n
    induction n with
    | zero =>
      intro j hj ω' h1
      exact vl_157_2 ω' (nI j) (br_t (by rw [show j = 128 by omega]; decide) (kc 6 (by decide) ω' h1))
    | succ n ih =>
      intro j hj ω' h1
      refine vl_157_2 ω' (nI j) (br_f (nI_ge (b := 128) (by omega) (by decide)) ?_)
      rw [ix768, nI_1]
      exact ⟨vp_in_nI (by omega) (by decide), ih (j + 1) (by omega) _ (Gr_ui h1 (by decide) rfl)⟩
  exact vc_157 ω (kb 128 0 rfl ω hG)
theorem g158 {ω : Om} (hG : Gr hx ω) {Q : Int32 → Om → Prop} (h : ∀ ω', Gr hx ω' → Q 0 ω') : me_CtI 158 [.ref 29] ω Q := vc_158 ω (g157 hG (fun ω' h' => ⟨_, rfl, h ω' h'⟩))
theorem g159 {ω : Om} {a k : Nat} (ha : a < 2 ^ 31) (hk : k < 2 ^ 31) {Q : Int32 → Om → Prop} (h : ∀ x, x < 5 → Q (nI x) ω) : me_CtI 159 [.int (nI a), .int (nI k)] ω Q := by
  have key : ∀ (n j a : Nat), j + n = k → a < 2 ^ 31 → me_W 159 4 [none, some (.int (nI k)), some (.int (nI a)), some (.int (nI j))] [] ω (fun r ω' => ∃ v, r = some (.int v) ∧ Q v ω') := by
    intro n
    induction n with
    | zero =>
      intro j a hj ha
      refine vl_159_4 ω (nI k) (nI a) (nI j) (br_t (by rw [show j = k by omega]; exact Int32.le_refl _) ⟨by decide, _, rfl, ?_⟩)
      rw [show (5 : Int32) = nI 5 from rfl, pk_rem ha (by decide) (by decide)]
      exact h _ (Nat.mod_lt _ (by decide))
    | succ n ih =>
      intro j a hj ha
      refine vl_159_4 ω (nI k) (nI a) (nI j) (br_f (nI_ge (by omega) hk) ⟨by decide, ?_⟩)
      rw [show (5 : Int32) = nI 5 from rfl, pk_div ha (by decide) (by decide), nI_1]
      exact ih (j + 1) (a / 5) (by omega) (Nat.lt_of_le_of_lt (Nat.div_le_self _ _) ha)
  exact vc_159 ω (nI a) (nI k) (key k 0 a (by omega) ha)
theorem g160 {ω : Om} (hG : Gr hx ω) {c : Nat} (hc : c < 2 ^ 31) {Q : Int32 → Om → Prop} (h : ∀ ω', Gr hx ω' → Q 0 ω') : me_CtI 160 [.ref 29, .int (nI c)] ω Q := by
  have fin : ∀ (k : Nat) (f : Int32), k < 6 → (∀ ω', Gr hx ω' → me_W 160 52 [some (.ref 29), some (.int (nI c)), some (.int (nI k)), some (.int f), some (.int (nI 1)), none, none, none] [] ω' (fun r ω' => ∃ v, r = some (.int v) ∧ Q v ω')) → ∀ ω', Gr hx ω' → me_W 160 83 [some (.ref 29), some (.int (nI c)), some (.int (nI k)), some (.int f), some (.int (nI 0)), some (.int 0), some (.int (0 + 1)), none] [] ω' (fun r ω' => ∃ v, r = some (.int v) ∧ Q v ω') := by
    intro k f hk hn ω' h1
    refine vl_160_83 ω' (nI c) (nI k) f (nI 0) 0 (0 + 1) (br_t (by rw [h1.sl]; decide) ?_)
    rw [ix128', nI_1]
    exact ⟨vp_in_nI (by omega) (by decide), hn _ (Gr_ui h1 (by decide) rfl)⟩
  have kd : ∀ (k x : Nat), x < 5 → k < 6 → (∀ ω', Gr hx ω' → me_W 160 52 [some (.ref 29), some (.int (nI c)), some (.int (nI k)), some (.int (nI x - 1)), some (.int (nI 1)), none, none, none] [] ω' (fun r ω' => ∃ v, r = some (.int v) ∧ Q v ω')) → ∀ ω', Gr hx ω' → me_W 160 83 [some (.ref 29), some (.int (nI c)), some (.int (nI k)), some (.int (nI x - 1)), some (.int (nI 0)), some (.int 0), some (.int 0), none] [] ω' (fun r ω' => ∃ v, r = some (.int v) ∧ Q v ω') := by
    intro k x hx hk hn ω' h1
    have hf := fin k (nI x - 1) hk hn ω' h1
    refine vl_160_83 ω' (nI c) (nI k) (nI x - 1) (nI 0) 0 0 (br_f (by rw [h1.sl]; decide) ⟨fun _ => hf, fun c1 => g144 (br_f (by decide) (g145 h1.sl (br_f (by decide) (g146 h1 ?_ (g147 h1.sl ?_)))))⟩)
    · have hx2 : ∀ x, x < 5 → ¬ nI x - 1 = -1 → vp_in (nI x - 1) 4 := by unfold vp_in; decide
      exact hx2 x hx c1
    · rw [nI_1, ix128', h1.2.1 41 _ (by decide)]
      exact ⟨vp_in_nI (by omega) (by decide), br_t (show (0 : Int32) + 0 ≤ 0 by decide) hf⟩
  have kc : ∀ (k : Nat), k < 7 → ∀ ω', Gr hx ω' → me_W 160 28 [some (.ref 29), some (.int (nI c)), some (.int (nI k + (-1))), none, none, none, none, none] [] ω' (fun r ω' => ∃ v, r = some (.int v) ∧ Q v ω') := by
    intro k
    induction k with
    | zero =>
      intro _ ω' h1
      refine vl_160_28 ω' (nI c) (nI 0 + (-1)) (br_t (by rw [h1.hr]; decide) ?_)
      rw [h1.2.1 41 _ (by decide), h1.hr, h1.wk]
      exact ⟨by unfold vp_in; decide, _, rfl, h ω' h1⟩
    | succ k ih =>
      intro hk ω' h1
      rw [pk_m1]
      refine vl_160_28 ω' (nI c) (nI k) (br_f (by rw [h1.hr]; exact nI_pos (by omega)) ?_)
      rw [h1.hr, Int32.sub_zero]
      refine g159 hc (by omega) (fun x hx => vl_160_52 ω' (nI c) (nI k) (nI x - 1) (nI 0) (br_f (by rw [h1.sl]; decide) ?_))
      rw [h1.2.1 41 _ (by decide), nI_1, ix128']
      exact ⟨vp_in_nI (by omega) (by decide), kd k x hx (by omega) (fun ω2 g1 => vl_160_52 ω2 (nI c) (nI k) (nI x - 1) (nI 1) (br_t (by rw [g1.sl]; decide) (ih (by omega) ω2 g1))) ω' h1⟩
  have kb : ∀ (n j : Nat), j + n = 128 → ∀ ω', Gr hx ω' → me_W 160 2 [some (.ref 29), some (.int (nI c)), some (.int (nI j)), none, none, none, none, none] [] ω' (fun r ω' => ∃ v, r = some (.int v) ∧ Q v ω') := by
    intro n
    induction n with
    | zero =>
      intro j hj ω' h1
      exact vl_160_2 ω' (nI c) (nI j) (br_t (by rw [show j = 128 by omega]; decide) (kc 6 (by decide) ω' h1))
    | succ n ih =>
      intro j hj ω' h1
      refine vl_160_2 ω' (nI c) (nI j) (br_f (nI_ge (b := 128) (by omega) (by decide)) ?_)
      rw [ix768, nI_1]
      exact ⟨vp_in_nI (by omega) (by decide), ih (j + 1) (by omega) _ (Gr_ui h1 (by decide) rfl)⟩
  exact vc_160 ω (nI c) (kb 128 0 rfl ω hG)
theorem g161 {ω : Om} {Q : Int32 → Om → Prop} (h : Q 15625 ω) : me_CtI 161 [.int 6] ω Q :=
  vc_161 ω 6 (vl_161_4 ω 6 1 0 (br_f (by decide) (vl_161_4 ω 6 (1 * 5) (0 + 1) (br_f (by decide) (vl_161_4 ω 6 (1 * 5 * 5) (0 + 1 + 1) (br_f (by decide) (vl_161_4 ω 6 (1 * 5 * 5 * 5) (0 + 1 + 1 + 1) (br_f (by decide) (vl_161_4 ω 6 (1 * 5 * 5 * 5 * 5) (0 + 1 + 1 + 1 + 1) (br_f (by decide) (vl_161_4 ω 6 (1 * 5 * 5 * 5 * 5 * 5) (0 + 1 + 1 + 1 + 1 + 1) (br_f (by decide) (vl_161_4 ω 6 (1 * 5 * 5 * 5 * 5 * 5 * 5) (0 + 1 + 1 + 1 + 1 + 1 + 1) (br_t (by decide) ⟨15625, rfl, h⟩))))))))))))))
theorem g167 {ω : Om} (hG : Gr hx ω) {c : Int32} (hc : ¬ c < 0) {Q : Int32 → Om → Prop} (h : ∀ ω', Gr hx ω' → Q 0 ω') : me_CtI 167 [.ref 29, .int c] ω Q := by
  refine vc_167 ω c (g151 hG (fun ω1 h1 _ => ?_))
  rw [h1.sl, show ((1 : Int32) <<< ((0 : Int32) &&& 31)) - 1 = 0 by decide]
  have skip : ∀ m : Int32, ¬ (8 : Int32) ≤ m → ¬ (0 : Int32) = m → me_W 167 23 [some (.ref 29), some (.int c), some (.int 0), some (.int 0), some (.long 0), none, some (.int (m + 1)), none, none, none] [] ω1 (fun r ω' => ∃ v, r = some (.int v) ∧ Q v ω') → me_W 167 23 [some (.ref 29), some (.int c), some (.int 0), some (.int 0), some (.long 0), none, some (.int m), none, none, none] [] ω1 (fun r ω' => ∃ v, r = some (.int v) ∧ Q v ω') := fun m h8 h0 hn =>
    vl_167_23 ω1 c 0 0 0 m (br_f h8 (vl_167_33 ω1 c 0 0 0 m 0 (br_f (by decide) (vl_167_45 ω1 c 0 0 0 m 0 0 0 (br_t (by rw [h1.sl]; decide) (g144 (br_f h0 (vl_167_33 ω1 c 0 0 0 m (0 + 1) (br_t (by decide) hn)))))))))
  refine vl_167_23 ω1 c 0 0 (-1) 0 (br_f (by decide) (vl_167_33 ω1 c 0 0 (-1) 0 0 (br_f (by decide) (vl_167_45 ω1 c 0 0 (-1) 0 0 0 0 (br_t (by rw [h1.sl]; decide) (g144 (br_t rfl (br_f hc ⟨vp_in_nI (n := 0) (by decide) (by decide), ?_⟩))))))))
  rw [h1.2.2.1 39 _ (by decide) (by decide)]
  refine br_f (by decide) ⟨vp_in_nI (n := 0) (by decide) (by decide), vl_167_33 ω1 c 0 0 0 0 (0 + 1) (br_t (by decide) ?_)⟩
  exact skip 1 (by decide) (by decide) (skip (1 + 1) (by decide) (by decide) (skip (1 + 1 + 1) (by decide) (by decide) (skip (1 + 1 + 1 + 1) (by decide) (by decide) (skip (1 + 1 + 1 + 1 + 1) (by decide) (by decide) (skip (1 + 1 + 1 + 1 + 1 + 1) (by decide) (by decide) (skip (1 + 1 + 1 + 1 + 1 + 1 + 1) (by decide) (by decide) (vl_167_23 ω1 c 0 0 0 (1 + 1 + 1 + 1 + 1 + 1 + 1 + 1) (br_t (by decide) ⟨_, rfl, h ω1 h1⟩))))))))
theorem g171 {ω : Om} (hz : ω.1 29 15 = 0) {s : Int32} {Q : Int32 → Om → Prop} (h1 : vp_in s 1 → Q 1 ω) (h0 : ¬ vp_in s 1 → Q 0 ω) : me_CtI 171 [.ref 29, .int s] ω Q := by
  refine vc_171 ω s (t123n 1 (by decide) (by rw [hz]; decide) (fun c => vl_171_18 ω s 1 0 (br_t (by rw [hz]; decide) ⟨Or.inr rfl, _, rfl, h1 c⟩)) (fun c => vl_171_18 ω s 0 0 (br_t (by rw [hz]; decide) ⟨Or.inl rfl, _, rfl, h0 c⟩)))
end GRN22
