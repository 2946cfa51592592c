section GRN25
variable {hx : Int64}
/-! come, night, image, count, digest -/
theorem f184 {ω : Om} {Q : Int32 → Om → Prop} (h : Q 0 ω) : me_CtI 184 [.int 0] ω Q := vc_184 ω 0 ⟨0, by decide +kernel, h⟩
theorem f29 {s : Int32} {Q : Int32 → Om → Prop} (h1 : vp_in s 1 → Q 1 om0) (h0 : ¬ vp_in s 1 → Q 0 om0) : me_CtI 29 [.ref 11, .int s] om0 Q :=
  vc_29 om0 s ⟨fun c => ⟨Or.inl rfl, _, rfl, h0 (in_no1 c)⟩, fun c => f28 rfl ⟨fun c2 => ⟨Or.inl rfl, _, rfl, h0 (in_no3 (n := 0) c2 rfl (by decide))⟩, fun c2 => ⟨Or.inr rfl, _, rfl, h1 (in_mkl (n := 0) c c2 rfl (by decide))⟩⟩⟩
theorem f105 {ω : Om} {Q : Int32 → Om → Prop} (h : Q 1 ω) : me_CtI 105 [.ref 0, .int 0] ω Q := by
  have hz : ∀ k, k < 7 → ¬ ((0 : Int32) >>> (nI k &&& 31)) &&& 1 = 1 := by decide
  have key : ∀ n k, k + n = 7 → me_W 105 2 [some (.ref 0), some (.int 0), some (.int (nI k))] [] ω (fun r ω' => ∃ v, r = some (.int v) ∧ Q v ω') := by
    intro n
    induction n with
    | zero =>
      intro k hk
      exact vl_105_2 ω 0 (nI k) (br_t (by rw [show k = 7 by omega]; decide) ⟨Or.inr rfl, _, rfl, h⟩)
    | succ n ih =>
      intro k hk
      refine vl_105_2 ω 0 (nI k) (br_f (nI_ge (b := 7) (by omega) (by decide)) (br_f (hz k (by omega)) ?_))
      rw [nI_1]
      exact ih (k + 1) (by omega)
  exact vc_105 ω 0 (key 7 0 rfl)
theorem f35 {t a : Int32} {Q : Int32 → Om → Prop} (h : Q 0 om0) : me_CtI 35 [.ref 11, .int 0, .int t, .int a] om0 Q := by
  have h5 : ∀ j, j < 4 → ¬ om0.1 15 j < 0 := by decide
  refine vc_35 om0 0 t a (vl_35_6 om0 0 t a 0 0 (br_t (by decide) (t26 (fun x hx _ => ⟨_, rfl, ?_⟩) (fun _ => ⟨_, rfl, h⟩))))
  rw [if_neg (h5 x hx)]
  exact h
theorem tail_come {t : Int32} {Q : Int32 → Om → Prop} (h : ∀ ω', Mf ω' → Q 0 ω') : me_CtI 35 [.ref 11, .int 0, .int t, .int (om0.1 16 0)] om0 (fun v ω => me_CtI 31 [.ref 11, .int 0] ω (fun v2 ω2 => me_CtI 26 [.ref 11, .int t] ω2 (fun v3 ω3 => me_CtV 41 [.ref 16, .int v2, .int v, .int (v3 - v)] ω3 (fun ω4 => Q v ω4)))) := by
  refine f35 (vc_31 om0 0 ⟨_, rfl, t26 (fun x hx _ => vc_41 om0 _ _ _ ⟨rfl, h _ ?_⟩) (fun _ => vc_41 om0 _ _ _ ⟨rfl, h _ ?_⟩)⟩)
  · exact Mf_ui (Mf_ui (Mf_ui (Mf_ui Mf.o (by decide)) (by decide)) (by decide)) (by decide)
  · exact Mf_ui (Mf_ui (Mf_ui (Mf_ui Mf.o (by decide)) (by decide)) (by decide)) (by decide)
theorem inM {x : Int32} : ((-1 : Int64) ≤ x.toInt64 ∧ x.toInt64 ≤ 3) ↔ (x = -1 ∨ vp_in x 4) := by
  rw [vp_in_iff, Int64.le_iff_toInt_le, Int64.le_iff_toInt_le, Int32.toInt_toInt64, show (-1 : Int64).toInt = -1 by decide, show (3 : Int64).toInt = 3 by decide]
  constructor
  · intro h
    by_cases c : x.toInt = -1
    · exact Or.inl (Int32.toInt_inj.mp (by rw [c]; decide))
    · right; omega
  · rintro (rfl | h)
    · decide
    · omega
theorem pr_come (t s : Int32) : PxI 75 [.ref 0, .int t, .int s] 148 [.ref 29, .int t, .int s] := by
  have es : ∀ ω, Mf ω → ((((1 : Int32) <<< (ω.1 29 15 &&& 31)) - 1).toInt64).toInt = ((1 : Nat) : Int) - 1 := fun ω hM => by rw [hM.sl]; decide
  by_cases c1 : t = -1
  · have cm : (-1 : Int64) ≤ t.toInt64 ∧ t.toInt64 ≤ 3 := inM.mpr (Or.inl c1)
    by_cases c2 : vp_in s 1
    · obtain rfl := vp1 c2
      refine ⟨0, vc_75 om0 t 0 (br_t c1 (f29 (fun _ => br_f (by decide) (f184 (br_t (by decide) (br_f (by decide) (f105 (br_f (by decide) (br_t c1 (br_t rfl (tail_come (fun ω' h => ⟨_, rfl, rfl, h⟩)))))))))) (fun n => absurd c2 n))), fun ω hM => vc_148 ω t 0 (t123 (fun _ => br_f (by decide) (t123n 1 (by decide) (es ω hM) (fun _ => br_f (by decide) (g144 (br_t (by decide) (br_f (by rw [hM.g.hr]; decide) (g145 hM.sl (br_f (by decide) (br_t c1 (br_t (by decide) (br_t c1 (br_t c1 (g147 (by exact hM.sl) ⟨_, rfl, rfl⟩))))))))))) (fun n => absurd c2 n))) (fun n => absurd cm n))⟩
    · exact ⟨-102, vc_75 om0 t s (br_t c1 (f29 (fun n => absurd n c2) (fun _ => br_t rfl ⟨_, rfl, rfl, Mf.o⟩))), fun ω hM => vc_148 ω t s (t123 (fun _ => br_f (by decide) (t123n 1 (by decide) (es ω hM) (fun n => absurd n c2) (fun _ => br_t rfl ⟨_, rfl, rfl⟩))) (fun n => absurd cm n))⟩
  · by_cases c4 : vp_in t 4
    · have cm : (-1 : Int64) ≤ t.toInt64 ∧ t.toInt64 ≤ 3 := inM.mpr (Or.inr c4)
      by_cases c2 : vp_in s 1
      · obtain rfl := vp1 c2
        refine ⟨0, vc_75 om0 t 0 (br_f c1 (t92 (fun _ => br_f (by decide) (f29 (fun _ => br_f (by decide) (f184 (br_t (by decide) (br_f (by decide) (f105 (br_f (by decide) (br_f c1 (tail_come (fun ω' h => ⟨_, rfl, rfl, h⟩))))))))) (fun n => absurd c2 n))) (fun n => absurd c4 n))), fun ω hM => vc_148 ω t 0 (t123 (fun _ => br_f (by decide) (t123n 1 (by decide) (es ω hM) (fun _ => br_f (by decide) (g144 (br_t (by decide) (br_f (by rw [hM.g.hr]; decide) (g145 hM.sl (br_f (by decide) (br_f c1 (br_f c1 (g146 hM.g c4 (br_f c1 ⟨c4, g147 (by exact hM.sl) ⟨_, rfl, rfl⟩⟩)))))))))) (fun n => absurd c2 n))) (fun n => absurd cm n))⟩
      · exact ⟨-102, vc_75 om0 t s (br_f c1 (t92 (fun _ => br_f (by decide) (f29 (fun n => absurd n c2) (fun _ => br_t rfl ⟨_, rfl, rfl, Mf.o⟩))) (fun n => absurd c4 n))), fun ω hM => vc_148 ω t s (t123 (fun _ => br_f (by decide) (t123n 1 (by decide) (es ω hM) (fun n => absurd n c2) (fun _ => br_t rfl ⟨_, rfl, rfl⟩))) (fun n => absurd cm n))⟩
    · have cm : ¬ ((-1 : Int64) ≤ t.toInt64 ∧ t.toInt64 ≤ 3) := fun q => (inM.mp q).elim c1 c4
      exact ⟨-101, vc_75 om0 t s (br_f c1 (t92 (fun n => absurd n c4) (fun _ => br_t rfl ⟨_, rfl, rfl, Mf.o⟩))), fun ω hM => vc_148 ω t s (t123 (fun n => absurd n cm) (fun _ => br_t rfl ⟨_, rfl, rfl⟩))⟩
/-! nights -/
def lcg (x : Int32) : Int32 := (((1103515245 : Int64) * x.toInt64 + 12345) &&& 2147483647).toInt32
def lcs : Nat → Int32 → Int32
  | 0, x => x
  | k + 1, x => lcs k (lcg x)
theorem lcg_nn (x : Int32) : ∃ q, q < 2 ^ 31 ∧ lcg x / 65536 - lcg x / 65536 / 10 * 10 = nI q := by
  obtain ⟨n, hn, e⟩ := wb_of ((1103515245 : Int64) * x.toInt64 + 12345)
  have e2 : lcg x = nI (n % 2 ^ 31) := by
    unfold lcg
    rw [e, show (2147483647 : Int64) = lN (2 ^ 31 - 1) from rfl, wb_mask hn (by decide), lN_i]
  have hl : n % 2 ^ 31 < 2 ^ 31 := Nat.mod_lt _ (by decide)
  refine ⟨n % 2 ^ 31 / 65536 % 10, by omega, ?_⟩
  rw [e2, show (65536 : Int32) = nI 65536 from rfl, pk_div hl (by decide) (by decide), show (10 : Int32) = nI 10 from rfl, pk_rem (by omega) (by decide) (by decide)]
theorem f3 {ω : Om} (hF : Fr ω) {a : Int32} {q : Nat} (hq : q < 2 ^ 31) {Q : Int32 → Om → Prop} (h : Q (-1) ω) : me_CtI 3 [.ref 7, .int a, .int (nI q)] ω Q := by
  have key : ∀ n j, j + n = 4 → me_W 3 5 [some (.ref 7), some (.int a), some (.int (nI q)), some (.int 0), some (.int (nI j))] [] ω (fun r ω' => ∃ v, r = some (.int v) ∧ Q v ω') := by
    intro n
    induction n with
    | zero =>
      intro j hj
      exact vl_3_5 ω a (nI q) 0 (nI j) (br_t (by rw [show j = 4 by omega]; decide) ⟨_, rfl, h⟩)
    | succ n ih =>
      intro j hj
      refine vl_3_5 ω a (nI q) 0 (nI j) (br_f (nI_ge (b := 4) (by omega) (by decide)) (f2 hF ?_))
      rw [show (0 : Int32) + 0 = 0 from rfl, nI_1]
      exact br_t (nI_pos' hq) (ih (j + 1) (by omega))
  exact vc_3 ω a (nI q) (key 4 0 rfl)
theorem f121 {ω : Om} (hF : Fr ω) {x c : Int32} {Q : Int32 → Om → Prop} (h2 : c = 2 → Q (lcs 6 x) ω) (h0 : ¬ c = 2 → Q 0 ω) : me_CtI 121 [.ref 0, .int x, .int c] ω Q := by
  have key : ∀ n j (z : Int32), j + n = 6 → lcs n z = lcs 6 x → me_W 121 23 [some (.ref 0), none, some (.int c), some (.int z), some (.int 0), some (.int 0), some (.int (nI j)), none, none] [] ω (fun r ω' => ∃ v, r = some (.int v) ∧ Q v ω') := by
    intro n
    induction n with
    | zero =>
      intro j z hj hz
      refine vl_121_23 ω c z 0 0 (nI j) (br_t (by rw [show j = 6 by omega]; decide) ⟨fun c2 => ⟨_, rfl, ?_⟩, fun c2 => ⟨_, rfl, h0 c2⟩⟩)
      rw [show z = lcs 6 x from hz]
      exact h2 c2
    | succ n ih =>
      intro j z hj hz
      obtain ⟨q, hq, eq⟩ := lcg_nn z
      refine vl_121_23 ω c z 0 0 (nI j) (br_f (nI_ge (b := 6) (by omega) (by decide)) (vc_103 ω z ⟨_, rfl, by decide, by decide, ?_⟩))
      show me_CtI 3 [.ref 7, .int (nI j), .int (lcg z / 65536 - lcg z / 65536 / 10 * 10)] ω _
      rw [eq, nI_1]
      exact f3 hF hq (br_t rfl (ih (j + 1) (lcg z) (by omega) hz))
  refine vc_121 ω x c ?_
  rw [hF.hr, hF.wk]
  exact key 6 0 x rfl rfl
theorem g175 {ω : Om} (hG : Gr hx ω) {j : Nat} (hj : j < 6) {Q : Int32 → Om → Prop} (h : Q (-1) (ui ω 29 29 (lcg (ω.1 29 29)))) : me_CtI 175 [.ref 29, .int (nI j)] ω Q := by
  obtain ⟨q, hq, eq⟩ := lcg_nn (ω.1 29 29)
  have hG2 : Gr hx (ui ω 29 29 (lcg (ω.1 29 29))) := Gr_seed hG
  have key : ∀ n k, k + n = 4 → me_W 175 12 [some (.ref 29), some (.int (nI j)), some (.int (nI q)), some (.int 0), some (.int (nI k))] [] (ui ω 29 29 (lcg (ω.1 29 29))) (fun r ω' => ∃ v, r = some (.int v) ∧ Q v ω') := by
    intro n
    induction n with
    | zero =>
      intro k hk
      exact vl_175_12 _ (nI j) (nI q) 0 (nI k) (br_t (by rw [show k = 4 by omega]; decide) ⟨_, rfl, h⟩)
    | succ n ih =>
      intro k hk
      refine vl_175_12 _ (nI j) (nI q) 0 (nI k) (br_f (nI_ge (b := 4) (by omega) (by decide)) ?_)
      rw [ix4', hG2.2.1 31 _ (by decide), nI_1]
      exact ⟨vp_in_nI (by omega) (by decide), br_t (show (0 : Int32) + 0 ≤ nI q from nI_pos' hq) (ih (k + 1) (by omega))⟩
  refine vc_175 ω (nI j) (vc_174 ω 10 ⟨by decide, by decide, _, rfl, ?_⟩)
  show me_W 175 12 [some (.ref 29), some (.int (nI j)), some (.int (lcg (ω.1 29 29) / 65536 - lcg (ω.1 29 29) / 65536 / 10 * 10)), some (.int 0), some (.int 0)] [] (ui ω 29 29 (lcg (ω.1 29 29))) _
  rw [eq]
  exact key 4 0 rfl
theorem g176 {ω : Om} (hG : Gr hx ω) {x c : Int32} (hs : ω.1 29 29 = x) {Q : Int32 → Om → Prop} (h2 : c = 2 → ∀ ω', Q (lcs 6 x) ω') (h1 : c = 1 → ∀ ω', Q (-1) ω') (h0 : ¬ c = 2 → ¬ c = 1 → ∀ ω', Q 0 ω') : me_W 176 42 [some (.ref 29), none, some (.int c), some (.int 0), some (.int 0), some (.int 0), none, none] [] ω (fun r ω' => ∃ v, r = some (.int v) ∧ Q v ω') := by
  have key : ∀ n j (ω : Om), Gr hx ω → j + n = 6 → lcs n (ω.1 29 29) = lcs 6 x → me_W 176 42 [some (.ref 29), none, some (.int c), some (.int 0), some (.int 0), some (.int (nI j)), none, none] [] ω (fun r ω' => ∃ v, r = some (.int v) ∧ Q v ω') := by
    intro n
    induction n with
    | zero =>
      intro j ω hG hj hz
      refine vl_176_42 ω c 0 0 (nI j) (br_t (by rw [show j = 6 by omega]; decide) ⟨fun c2 => ⟨_, rfl, ?_⟩, fun c2 => ⟨fun c1 => br_t hG.rl ⟨_, rfl, h1 c1 ω⟩, fun c1 => ⟨_, rfl, h0 c2 c1 ω⟩⟩⟩)
      rw [show ω.1 29 29 = lcs 6 x from hz]
      exact h2 c2 ω
    | succ n ih =>
      intro j ω hG hj hz
      refine vl_176_42 ω c 0 0 (nI j) (br_f (nI_ge (b := 6) (by omega) (by decide)) (g175 hG (by omega) (br_t rfl ?_)))
      rw [nI_1]
      exact ih (j + 1) _ (Gr_seed hG) (by omega) hz
  exact key 6 0 ω hG rfl (by rw [hs])
theorem pr_night (x c : Int32) : PxI 86 [.ref 0, .int x, .int c] 176 [.ref 29, .int x, .int c] := by
  by_cases c0 : x < 0
  · exact ⟨-102, vc_86 om0 x c (br_t c0 ⟨_, rfl, rfl, Mf.o⟩), fun ω hM => vc_176 ω x c (br_t c0 ⟨_, rfl, rfl⟩)⟩
  · by_cases c1 : vp_in c 3
    · have n0 : ¬ c < 0 := fun q => c1 (Or.inl q)
      have n2 : c ≤ 2 := by
        obtain ⟨j, hj, rfl⟩ := vp_in_of c1 (by decide)
        exact nI_le (b := 2) (by omega) (by decide)
      have mo : ∀ {ω : Om}, Mf ω → ∀ {Q : Int32 → Om → Prop}, (c = 2 → ∀ ω', Q (lcs 6 x) ω') → (c = 1 → ∀ ω', Q (-1) ω') → (¬ c = 2 → ¬ c = 1 → ∀ ω', Q 0 ω') → me_CtI 176 [.ref 29, .int x, .int c] ω Q := by
        intro ω hM Q h2 h1 h0
        refine vc_176 ω x c (br_f c0 (t123n 3 (by decide) (by decide) (fun _ => br_f (by decide) (g151 hM.g (fun ω1 g1 _ => ?_))) (fun n => absurd c1 n)))
        rw [g1.hr, g1.wk]
        exact g176 (Gr_seed g1) rfl h2 h1 h0
      by_cases d1 : c = 1
      · exact ⟨-1, vc_86 om0 x c (br_f c0 (br_f n0 (br_t n2 (br_t d1 (br_t rfl ⟨_, rfl, rfl, Mf.o⟩))))), fun ω hM => mo hM (fun d2 => absurd (d1.symm.trans d2) (by decide)) (fun _ _ => rfl) (fun _ n => absurd d1 n)⟩
      · by_cases d2 : c = 2
        · exact ⟨lcs 6 x, vc_86 om0 x c (br_f c0 (br_f n0 (br_t n2 (br_f d1 (br_f (by rw [d2]; decide) (f121 Fr.o (fun _ => ⟨_, rfl, rfl, Mf.o⟩) (fun n => absurd d2 n))))))), fun ω hM => mo hM (fun _ _ => rfl) (fun n => absurd n d1) (fun n => absurd d2 n)⟩
        · have d0 : c = 0 := by
            obtain ⟨j, hj, rfl⟩ := vp_in_of c1 (by decide)
            rcases (show j = 0 ∨ j = 1 ∨ j = 2 by omega) with rfl | rfl | rfl
            · rfl
            · exact absurd rfl d1
            · exact absurd rfl d2
          exact ⟨0, vc_86 om0 x c (br_f c0 (br_f n0 (br_t n2 (br_f d1 (br_t d0 (f108 Fr.o (fun ω' h => f121 h (fun n => absurd n d2) (fun _ => ⟨_, rfl, rfl, h.m⟩)))))))), fun ω hM => mo hM (fun n => absurd n d2) (fun n => absurd n d1) (fun _ _ _ => rfl)⟩
    · refine ⟨-102, vc_86 om0 x c (br_f c0 ⟨fun _ => ⟨_, rfl, rfl, Mf.o⟩, fun n0 => ⟨fun n1 => absurd (in_mkl (c := 2) n0 (fun q => absurd n1 (Int32.not_le.mpr q)) rfl (by decide)) c1, fun _ => ⟨_, rfl, rfl, Mf.o⟩⟩⟩), fun ω hM => vc_176 ω x c (br_f c0 (t123n 3 (by decide) (by decide) (fun n => absurd n c1) (fun _ => br_t rfl ⟨_, rfl, rfl⟩)))⟩
theorem pr_image : PxI 87 [.ref 0] 177 [.ref 29] := by
  have kb : ∀ n j (ω : Om), j + n = 4 → ω.1 29 16 = 0 → me_W 177 28 [some (.ref 29), some (.int (nI j))] [] ω (fun r ω' => ∃ v, r = some (.int v) ∧ v = 0) := by
    intro n
    induction n with
    | zero =>
      intro j ω hj hz
      exact vl_177_28 ω (nI j) (br_t (by rw [show j = 4 by omega]; decide) ⟨_, rfl, hz⟩)
    | succ n ih =>
      intro j ω hj hz
      refine vl_177_28 ω (nI j) (br_f (nI_ge (b := 4) (by omega) (by decide)) ⟨vp_in_nI (by omega) (by decide), vp_in_nI (by omega) (by decide), ?_⟩)
      rw [nI_1]
      exact ih (j + 1) _ (by omega) hz
  have ka : ∀ n j (ω : Om), j + n = 28 → ω.1 29 16 = 0 → me_W 177 2 [some (.ref 29), some (.int (nI j))] [] ω (fun r ω' => ∃ v, r = some (.int v) ∧ v = 0) := by
    intro n
    induction n with
    | zero =>
      intro j ω hj hz
      exact vl_177_2 ω (nI j) (br_t (by rw [show j = 28 by omega]; decide) (kb 4 0 ω rfl hz))
    | succ n ih =>
      intro j ω hj hz
      refine vl_177_2 ω (nI j) (br_f (nI_ge (b := 28) (by omega) (by decide)) ⟨vp_in_nI (by omega) (by decide), vp_in_nI (by omega) (by decide), ?_⟩)
      rw [nI_1]
      exact ih (j + 1) _ (by omega) hz
  refine ⟨0, vc_87 om0 (vc_37 om0 ⟨by decide, by decide, rfl, _, rfl, rfl, Mf_ui (Mf_ui (Mf_ui (Mf_ui (Mf_ui (Mf_ur (Mf_ur Mf.o (by decide)) (by decide)) (by decide)) (by decide)) (by decide)) (by decide)) (by decide)⟩), fun ω hM => vc_177 ω (ka 28 0 ω rfl hM.g.hr)⟩
theorem f89 {ω : Om} (hF : Fr ω) {k : Nat} (hk : k < 8) {Q : Int32 → Om → Prop} (h : Q 0 ω) : me_CtI 89 [.ref 0, .int (nI k)] ω Q := by
  have z : ∀ i k, i ≠ 0 → om0.1 i k = 0 → ω.1 i k = 0 := fun i k hi e => (hF.1 i k hi).trans e
  have l : ∀ i k, i ≠ 0 → om0.1 i k = 0 → ∃ v, some (Value.int (ω.1 i k)) = some (Value.int v) ∧ Q v ω := fun i k hi e => ⟨_, rfl, by rw [z i k hi e]; exact h⟩
  refine vc_89 ω (nI k) ?_
  rcases (show k = 0 ∨ k = 1 ∨ k = 2 ∨ k = 3 ∨ k = 4 ∨ k = 5 ∨ k = 6 ∨ k = 7 by omega) with rfl | rfl | rfl | rfl | rfl | rfl | rfl | rfl
  · exact br_t rfl (l 11 4 (by decide) rfl)
  · exact br_f (by decide) (br_t rfl (l 16 0 (by decide) rfl))
  · refine br_f (by decide) (br_f (by decide) (br_t rfl ?_))
    rw [hF.wk]
    exact f184 ⟨_, rfl, h⟩
  · exact br_f (by decide) (br_f (by decide) (br_f (by decide) (br_t rfl (l 16 2 (by decide) rfl))))
  · exact br_f (by decide) (br_f (by decide) (br_f (by decide) (br_f (by decide) (br_t rfl (l 16 3 (by decide) rfl)))))
  · exact br_f (by decide) (br_f (by decide) (br_f (by decide) (br_f (by decide) (br_f (by decide) (br_t rfl (l 1 1 (by decide) rfl))))))
  · exact br_f (by decide) (br_f (by decide) (br_f (by decide) (br_f (by decide) (br_f (by decide) (br_f (by decide) (br_t rfl (l 7 1 (by decide) rfl)))))))
  · exact br_f (by decide) (br_f (by decide) (br_f (by decide) (br_f (by decide) (br_f (by decide) (br_f (by decide) (br_f (by decide) (br_t rfl (l 9 1 (by decide) rfl))))))))
theorem g179 {ω : Om} (hG : Gr hx ω) {k : Nat} (hk : k < 8) {Q : Int32 → Om → Prop} (h : Q 0 ω) : me_CtI 179 [.ref 29, .int (nI k)] ω Q := by
  have l : ∀ k, k ≠ 29 → om0.1 29 k = 0 → ∃ v, some (Value.int (ω.1 29 k)) = some (Value.int v) ∧ Q v ω := fun k hi e => ⟨_, rfl, by rw [hG.1 k hi, e]; exact h⟩
  refine vc_179 ω (nI k) ?_
  rcases (show k = 0 ∨ k = 1 ∨ k = 2 ∨ k = 3 ∨ k = 4 ∨ k = 5 ∨ k = 6 ∨ k = 7 by omega) with rfl | rfl | rfl | rfl | rfl | rfl | rfl | rfl
  · exact br_t rfl (l 15 (by decide) rfl)
  · exact br_f (by decide) (br_t rfl (l 16 (by decide) rfl))
  · refine br_f (by decide) (br_f (by decide) (br_t rfl ?_))
    rw [hG.wk]
    exact g144 ⟨_, rfl, h⟩
  · exact br_f (by decide) (br_f (by decide) (br_f (by decide) (br_t rfl (l 18 (by decide) rfl))))
  · exact br_f (by decide) (br_f (by decide) (br_f (by decide) (br_f (by decide) (br_t rfl (l 19 (by decide) rfl)))))
  · exact br_f (by decide) (br_f (by decide) (br_f (by decide) (br_f (by decide) (br_f (by decide) (br_t rfl (l 1 (by decide) rfl))))))
  · exact br_f (by decide) (br_f (by decide) (br_f (by decide) (br_f (by decide) (br_f (by decide) (br_f (by decide) (br_t rfl (l 3 (by decide) rfl)))))))
  · exact br_f (by decide) (br_f (by decide) (br_f (by decide) (br_f (by decide) (br_f (by decide) (br_f (by decide) (br_f (by decide) (br_t rfl (l 9 (by decide) rfl))))))))
theorem pr_count (c : Int32) : PxI 89 [.ref 0, .int c] 180 [.ref 29, .int c] := by
  by_cases c1 : vp_in c 8
  · obtain ⟨k, hk, rfl⟩ := vp_in_of c1 (by decide)
    exact ⟨0, f89 Fr.o hk ⟨rfl, Mf.o⟩, fun ω hM => vc_180 ω (nI k) (g179 hM.g hk ⟨_, rfl, rfl⟩)⟩
  · have ne : ∀ k, k < 8 → ¬ c = nI k := fun k hk e => c1 (by rw [e]; exact vp_in_nI hk (by decide))
    exact ⟨-102, vc_89 om0 c (br_f (ne 0 (by decide)) (br_f (ne 1 (by decide)) (br_f (ne 2 (by decide)) (br_f (ne 3 (by decide)) (br_f (ne 4 (by decide)) (br_f (ne 5 (by decide)) (br_f (ne 6 (by decide)) (br_f (ne 7 (by decide)) ⟨_, rfl, rfl, Mf.o⟩)))))))), fun ω hM => vc_180 ω c (vc_179 ω c (br_f (ne 0 (by decide)) (br_f (ne 1 (by decide)) (br_f (ne 2 (by decide)) (br_f (ne 3 (by decide)) (br_f (ne 4 (by decide)) (br_f (ne 5 (by decide)) (br_f (ne 6 (by decide)) (br_f (ne 7 (by decide)) ⟨_, rfl, _, rfl, rfl⟩)))))))))⟩
end GRN25
