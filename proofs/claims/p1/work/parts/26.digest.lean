/-! digest -/
def mx (v : Int64) : Nat → Int64 → Int64
  | 0, h => h
  | k + 1, h => mx v k (31 * h + v)
def dgH : Int64 := mx 50 4 (mx 0 24 643)
def dgR : Int64 := mx 0 8 (31 * (31 * (31 * (31 * dgH + 0) + 1) + 0) + 0)
theorem f107 {ω : Om} (hF : Fr ω) {Q : Int64 → Om → Prop} (h : Q dgH ω) : me_CtJ 107 [.ref 0, .long 643] ω Q := by
  have h5 : ∀ j, j < 4 → om0.1 15 j = 50 := by decide
  have kc : ∀ n j (x : Int64), j + n = 4 → mx 50 n x = dgH → me_W 107 53 [some (.ref 0), none, none, some (.long x), none, some (.int (nI j)), none] [] ω (fun r ω' => ∃ v, r = some (.long v) ∧ Q v ω') := by
    intro n
    induction n with
    | zero =>
      intro j x hj hx
      refine vl_107_53 ω x (nI j) (br_t (by rw [show j = 4 by omega]; decide) (vl_107_83 ω x 0 (br_t (by rw [hF.sz]; decide) ⟨_, rfl, ?_⟩)))
      rw [show x = dgH from hx]
      exact h
    | succ n ih =>
      intro j x hj hx
      refine vl_107_53 ω x (nI j) (br_f (nI_ge (b := 4) (by omega) (by decide)) (t26 (fun a ha ea => ?_) (fun q => absurd (vp_in_nI (by omega) (by decide)) q)))
      rw [hF.1 15 a (by decide), h5 a ha, nI_1]
      exact vc_100 ω x _ ⟨_, rfl, ih (j + 1) _ (by omega) hx⟩
  have ka : ∀ n j (x : Int64), j + n = 6 → mx 0 (4 * n) x = mx 0 24 643 → me_W 107 5 [some (.ref 0), none, none, some (.long x), none, some (.int (nI j)), none] [] ω (fun r ω' => ∃ v, r = some (.long v) ∧ Q v ω') := by
    intro n
    induction n with
    | zero =>
      intro j x hj hx
      exact vl_107_5 ω x (nI j) (br_t (by rw [show j = 6 by omega]; decide) (kc 4 0 x rfl (by rw [show x = mx 0 24 643 from hx]; rfl)))
    | succ n ih =>
      intro j x hj hx
      have kb : ∀ m k (z : Int64), k + m = 4 → mx 0 (4 * n + m) z = mx 0 24 643 → me_W 107 15 [some (.ref 0), none, none, some (.long z), none, some (.int (nI j)), some (.int (nI k))] [] ω (fun r ω' => ∃ v, r = some (.long v) ∧ Q v ω') := by
        intro m
        induction m with
        | zero =>
          intro k z hk hz
          refine vl_107_15 ω z (nI j) (nI k) (br_t (by rw [show k = 4 by omega]; decide) ?_)
          rw [nI_1]
          exact ih (j + 1) z (by omega) hz
        | succ m ihm =>
          intro k z hk hz
          refine vl_107_15 ω z (nI j) (nI k) (br_f (nI_ge (b := 4) (by omega) (by decide)) (f2 hF (vc_100 ω z _ ⟨_, rfl, ?_⟩)))
          rw [nI_1]
          exact ihm (k + 1) _ (by omega) hz
      exact vl_107_5 ω x (nI j) (br_f (nI_ge (b := 6) (by omega) (by decide)) (kb 4 0 x rfl hx))
  exact vc_107 ω 643 (ka 6 0 643 rfl rfl)
theorem f90 {ω : Om} (hF : Fr ω) {Q : Int64 → Om → Prop} (h : ∀ ω', Fr ω' → Q dgR ω') : me_CtJ 90 [.ref 0] ω Q := by
  have ka : ∀ n j (x : Int64) (ω : Om), Fr ω → j + n = 8 → mx 0 n x = dgR → me_W 90 115 [some (.ref 0), some (.long x), none, some (.int (nI j))] [] ω (fun r ω' => ∃ v, r = some (.long v) ∧ Q v ω') := by
    intro n
    induction n with
    | zero =>
      intro j x ω hF hj hx
      refine vl_90_115 ω x (nI j) (br_t (by rw [show j = 8 by omega]; decide) ⟨_, rfl, ?_⟩)
      rw [show x = dgR from hx]
      exact h ω hF
    | succ n ih =>
      intro j x ω hF hj hx
      refine vl_90_115 ω x (nI j) (br_f (nI_ge (b := 8) (by omega) (by decide)) (f89 hF (by omega) (vc_100 ω x _ ⟨_, rfl, ?_⟩)))
      rw [nI_1]
      exact ih (j + 1) _ ω hF (by omega) hx
  have i0 : vp_in (0 : Int32) 2 := vp_in_nI (n := 0) (by decide) (by decide)
  have i1 : vp_in (1 : Int32) 2 := vp_in_nI (n := 1) (by decide) (by decide)
  have i50 : vp_in (50 : Int32) 1000 := vp_in_nI (n := 50) (by decide) (by decide)
  refine vc_90 ω (f107 hF (f77 hF i0 (fun ω1 h1 => ⟨fun _ => vc_100 ω1 _ _ ⟨_, rfl, f77 h1 i1 (fun ω2 h2 => ⟨fun c => absurd c (by decide), fun _ => vc_100 ω2 _ _ ⟨_, rfl, f79 h2 (fun ω3 h3 => vc_100 ω3 _ _ ⟨_, rfl, br_t (by rw [h3.rl]; decide) (f83 h3 i50 (fun ω4 h4 => vc_100 ω4 _ _ ⟨_, rfl, vl_90_82 ω4 _ 0 (br_t (by rw [h4.pg]; decide) (ka 8 0 _ ω4 h4 rfl rfl))⟩))⟩)⟩⟩)⟩, fun c => absurd rfl c⟩)))
theorem g181 {x : Int64} {ω : Om} (hG : Gr x ω) {v : Int64} {Q : Om → Prop} (h : ∀ ω', Gr (31 * x + v) ω' → Q ω') : me_CtV 181 [.ref 29, .long v] ω Q := by
  refine vc_181 ω v ⟨rfl, h _ ?_⟩
  rw [← hG.2.2.2]
  exact Gr_uh hG
theorem g183 {ω : Om} {x0 : Int64} (hG : Gr x0 ω) {Q : Int64 → Om → Prop} (h : ∀ ω', Q dgR ω') : me_CtJ 183 [.ref 29] ω Q := by
  have h5 : ∀ j, j < 4 → om0.1 38 j = 50 := by decide
  have kd : ∀ n j (x : Int64) (ω : Om), Gr x ω → j + n = 8 → mx 0 n x = dgR → me_W 183 169 [some (.ref 29), some (.int (nI j))] [] ω (fun r ω' => ∃ v, r = some (.long v) ∧ Q v ω') := by
    intro n
    induction n with
    | zero =>
      intro j x ω hG hj hx
      refine vl_183_169 ω (nI j) (br_t (by rw [show j = 8 by omega]; decide) ⟨_, rfl, ?_⟩)
      rw [hG.2.2.2, show x = dgR from hx]
      exact h ω
    | succ n ih =>
      intro j x ω hG hj hx
      refine vl_183_169 ω (nI j) (br_f (nI_ge (b := 8) (by omega) (by decide)) (g179 hG (by omega) (g181 hG (fun ω' h' => ?_))))
      rw [nI_1]
      exact ih (j + 1) _ ω' h' (by omega) hx
  have kc : ∀ (ω : Om), Gr dgH ω → me_W 183 58 [some (.ref 29), some (.int 0)] [] ω (fun r ω' => ∃ v, r = some (.long v) ∧ Q v ω') := by
    intro ω hG
    refine vl_183_58 ω 0 (br_t (by rw [hG.sl]; decide) (g154 hG (fun ω1 h1 => ⟨fun _ => g181 h1 (fun ω2 h2 => g154 h2 (fun ω3 h3 => ⟨fun c => absurd c (by decide), fun _ => g181 h3 (fun ω4 h4 => g157 h4 (fun ω5 h5 => g181 h5 (fun ω6 h6 => br_t (by rw [h6.rl]; decide) (g167 h6 (by decide) (fun ω7 h7 => g181 h7 (fun ω8 h8 => vl_183_142 ω8 0 (br_t (by rw [h8.1 1 (by decide)]; decide) (kd 8 0 _ ω8 h8 rfl rfl))))))))⟩)), fun c => absurd rfl c⟩)))
  have kb : ∀ n j (x : Int64) (ω : Om), Gr x ω → j + n = 4 → mx 50 n x = dgH → me_W 183 34 [some (.ref 29), some (.int (nI j))] [] ω (fun r ω' => ∃ v, r = some (.long v) ∧ Q v ω') := by
    intro n
    induction n with
    | zero =>
      intro j x ω hG hj hx
      refine vl_183_34 ω (nI j) (br_t (by rw [show j = 4 by omega]; decide) (kc ω ?_))
      rw [← show x = dgH from hx]
      exact hG
    | succ n ih =>
      intro j x ω hG hj hx
      refine vl_183_34 ω (nI j) (br_f (nI_ge (b := 4) (by omega) (by decide)) ⟨vp_in_nI (by omega) (by decide), ?_⟩)
      rw [nI_clamp (by omega), hG.2.1 38 j (by decide), h5 j (by omega), nI_1]
      exact g181 hG (fun ω' h' => ih (j + 1) _ ω' h' (by omega) hx)
  have ka : ∀ n j (x : Int64) (ω : Om), Gr x ω → j + n = 24 → mx 0 n x = mx 0 24 643 → me_W 183 9 [some (.ref 29), some (.int (nI j))] [] ω (fun r ω' => ∃ v, r = some (.long v) ∧ Q v ω') := by
    intro n
    induction n with
    | zero =>
      intro j x ω hG hj hx
      exact vl_183_9 ω (nI j) (br_t (by rw [show j = 24 by omega]; decide) (kb 4 0 x ω hG rfl (by rw [show x = mx 0 24 643 from hx]; rfl)))
    | succ n ih =>
      intro j x ω hG hj hx
      refine vl_183_9 ω (nI j) (br_f (nI_ge (b := 24) (by omega) (by decide)) ⟨vp_in_nI (by omega) (by decide), ?_⟩)
      rw [hG.2.1 31 _ (by decide), nI_1]
      exact g181 hG (fun ω' h' => ih (j + 1) _ ω' h' (by omega) hx)
  exact vc_183 ω (ka 24 0 643 _ (Gr_uh hG) rfl rfl)
theorem pr_digest : PxJ 90 [.ref 0] 183 [.ref 29] := ⟨dgR, f90 Fr.o (fun ω' h => ⟨rfl, h.m⟩), fun ω hM => g183 hM.g (fun _ => rfl)⟩
