/-! PAIRS: on two new objects the class and the reference answer alike -/
def PxI (y : Nat) (as : List Value) (y2 : Nat) (as2 : List Value) : Prop := ∃ r : Int32, me_CtI y as om0 (fun v ω' => v = r ∧ Mf ω') ∧ ∀ ω, Mf ω → me_CtI y2 as2 ω (fun v _ => v = r)
def PxJ (y : Nat) (as : List Value) (y2 : Nat) (as2 : List Value) : Prop := ∃ r : Int64, me_CtJ y as om0 (fun v ω' => v = r ∧ Mf ω') ∧ ∀ ω, Mf ω → me_CtJ y2 as2 ω (fun v _ => v = r)
theorem vp1 {x : Int32} (h : vp_in x 1) : x = 0 := by
  obtain ⟨j, hj, rfl⟩ := vp_in_of h (by decide)
  obtain rfl : j = 0 := by omega
  rfl
theorem vp1' : vp_in 0 1 := vp_in_nI (n := 0) (by decide) (by decide)
theorem pr_blank : PxI 65 [.ref 0] 125 [.ref 29] :=
  ⟨0, vc_65 om0 ⟨_, rfl, rfl, Mf_ui Mf.o (by decide)⟩, fun ω hM => vc_125 ω ⟨_, rfl, (hM 29 1 (by decide)).1⟩⟩
/-- the readers begin -/
theorem f5 {ω : Om} (hM : Mf ω) (hp : ω.1 1 1 = 0) {Q : Om → Prop} (h : ∀ ω', Mf ω' → ω'.1 1 1 = 0 → ω'.1 3 2 = 0 → Q ω') : me_CtV 5 [.ref 3] ω Q := by
  have key : ∀ n j (ω : Om), j + n = 24 → Mf ω → ω.1 1 1 = 0 → me_W 5 2 [some (.ref 3), some (.int (nI j))] [] ω (fun r ω' => r = none ∧ Q ω') := by
    intro n
    induction n with
    | zero =>
      intro j ω hj hM hp
      exact vl_5_2 ω (nI j) (br_t (by rw [show j = 24 by omega]; decide) (vc_6 _ 0 ⟨rfl, rfl, h _ (Mf_ui (Mf_ui (Mf_ui (Mf_ui (Mf_ui hM (by decide)) (by decide)) (by decide)) (by decide)) (by decide)) hp rfl⟩))
    | succ n ih =>
      intro j ω hj hM hp
      refine vl_5_2 ω (nI j) (br_f (nI_ge (b := 24) (by omega) (by decide)) ⟨vp_in_nI (by omega) (by decide), ?_⟩)
      rw [nI_1]
      exact ih (j + 1) _ (by omega) (Mf_ui hM (by decide)) hp
  exact vc_5 ω (key 24 0 ω rfl hM hp)
theorem f45b {ω : Om} (hp : ω.1 1 1 = 0) {Q : Int32 → Om → Prop} (h : Q 0 ω) : me_CtI 45 [.ref 1, .ref 3] ω Q :=
  vc_45b ω (vl_45b_2 ω 0 (br_t (by rw [hp]; decide) ⟨_, rfl, by rw [hp]; exact h⟩))
theorem f45r {ω : Om} (hp : ω.1 1 1 = 0) {Q : Int32 → Om → Prop} (h : Q 0 ω) : me_CtI 45 [.ref 1, .ref 5] ω Q :=
  vc_45r ω (vl_45r_2 ω 0 (br_t (by rw [hp]; decide) ⟨_, rfl, by rw [hp]; exact h⟩))
theorem g128 {ω : Om} (hp : ω.1 29 1 = 0) {Q : Int32 → Om → Prop} (h : ∀ ω', ω'.1 29 1 = 0 → ω'.1 29 5 = 0 → Q 0 ω') : me_CtI 128 [.ref 29] ω Q := by
  have key : ∀ n j (ω : Om), j + n = 24 → ω.1 29 1 = 0 → me_W 128 2 [some (.ref 29), some (.int (nI j))] [] ω (fun r ω' => ∃ v, r = some (.int v) ∧ Q v ω') := by
    intro n
    induction n with
    | zero =>
      intro j ω hj hp
      refine vl_128_2 ω (nI j) (br_t (by rw [show j = 24 by omega]; decide) (vl_128_43 _ 0 (br_t ?_ ⟨_, rfl, h _ hp rfl⟩)))
      show ω.1 29 1 ≤ 0
      rw [hp]
      decide
    | succ n ih =>
      intro j ω hj hp
      refine vl_128_2 ω (nI j) (br_f (nI_ge (b := 24) (by omega) (by decide)) ⟨vp_in_nI (by omega) (by decide), ?_⟩)
      rw [nI_1]
      exact ih (j + 1) _ (by omega) hp
  exact vc_128 ω (key 24 0 ω rfl hp)
theorem g130 {ω : Om} (hp : ω.1 29 1 = 0) {Q : Int32 → Om → Prop} (h : ∀ ω', ω'.1 29 1 = 0 → ω'.1 29 8 = 0 → Q 0 ω') : me_CtI 130 [.ref 29] ω Q := by
  refine vc_130 ω (vl_130_12 _ 0 (br_t ?_ ⟨_, rfl, h _ hp rfl⟩))
  show ω.1 29 1 ≤ 0
  rw [hp]
  decide
theorem Mf.pg {ω : Om} (h : Mf ω) : ω.1 29 1 = 0 := (h 29 1 (by decide)).1
theorem Mf.sl {ω : Om} (h : Mf ω) : ω.1 29 15 = 0 := (h 29 15 (by decide)).1
theorem pr_fault (s : Int32) : PxI 66 [.ref 0, .int s] 131 [.ref 29, .int s] := by
  by_cases c0 : s = 0
  · exact ⟨0, vc_66 om0 s (br_t c0 (f5 Mf.o rfl (fun ω' h1 h2 _ => f45b h2 ⟨_, rfl, rfl, h1⟩))), fun ω hM => vc_131 ω s (br_t c0 (g128 hM.pg (fun _ _ _ => ⟨_, rfl, rfl⟩)))⟩
  · by_cases c1 : s = 1
    · exact ⟨0, vc_66 om0 s (br_f c0 (br_t c1 (vc_51 om0 0 ⟨rfl, f45r rfl ⟨_, rfl, rfl, Mf_ui (Mf_ui (Mf_ui (Mf_ui (Mf_ui Mf.o (by decide)) (by decide)) (by decide)) (by decide)) (by decide)⟩⟩))), fun ω hM => vc_131 ω s (br_f c0 (br_t c1 (g130 hM.pg (fun _ _ _ => ⟨_, rfl, rfl⟩))))⟩
    · exact ⟨-102, vc_66 om0 s (br_f c0 (br_f c1 ⟨_, rfl, rfl, Mf.o⟩)), fun ω hM => vc_131 ω s (br_f c0 (br_f c1 ⟨_, rfl, rfl⟩))⟩
theorem pr_bell : PxI 67 [.ref 0] 132 [.ref 29] := by
  refine ⟨-103, vc_67 om0 (f5 Mf.o rfl (fun ω' h1 h2 h3 => f45b h2 (br_f (by rw [h2]; decide) (vc_8 ω' (br_f (by rw [h3]; decide) ⟨Or.inl rfl, _, rfl, br_t rfl ⟨_, rfl, rfl, h1⟩⟩))))), fun ω hM => vc_132 ω (g128 hM.pg (fun ω' h1 h2 => br_f (by rw [h1]; decide) (br_f (by rw [h2]; decide) ⟨_, rfl, rfl⟩)))⟩
theorem pr_rule : PxI 68 [.ref 0] 133 [.ref 29] := by
  refine ⟨-103, vc_68 om0 (vc_51 om0 0 ⟨rfl, f45r rfl (br_f (by decide) (vc_53 _ (br_f (by decide) ⟨Or.inl rfl, _, rfl, br_t rfl ⟨_, rfl, rfl, Mf_ui (Mf_ui (Mf_ui (Mf_ui (Mf_ui Mf.o (by decide)) (by decide)) (by decide)) (by decide)) (by decide)⟩⟩)))⟩), fun ω hM => vc_133 ω (g130 hM.pg (fun ω' h1 h2 => br_f (by rw [h1]; decide) (br_f (by rw [h2]; decide) ⟨_, rfl, rfl⟩)))⟩
theorem pr_tenths (a b : Int32) : PxI 69 [.ref 0, .int a, .int b] 134 [.ref 29, .int a, .int b] := by
  by_cases c1 : vp_in a 6
  · by_cases c2 : vp_in b 4
    · refine ⟨0, vc_69 om0 a b (t91 (fun _ => br_f (by decide) (t92 (fun _ => br_f (by decide) (f2 Fr.o ⟨_, rfl, rfl, Mf.o⟩)) (fun n => absurd c2 n))) (fun n => absurd c1 n)), fun ω hM => vc_134 ω a b (t123n 6 (by decide) (by decide) (fun _ => br_f (by decide) (t123n 4 (by decide) (by decide) (fun _ => br_f (by decide) ?_) (fun n => absurd c2 n))) (fun n => absurd c1 n))⟩
      obtain ⟨x, hx, rfl⟩ := vp_in_of c1 (by decide)
      obtain ⟨z, hz, rfl⟩ := vp_in_of c2 (by decide)
      rw [ix4']
      exact ⟨vp_in_nI (by omega) (by decide), _, rfl, (hM 31 _ (by decide)).1⟩
    · exact ⟨-101, vc_69 om0 a b (t91 (fun _ => br_f (by decide) (t92 (fun n => absurd n c2) (fun _ => br_t rfl ⟨_, rfl, rfl, Mf.o⟩))) (fun n => absurd c1 n)), fun ω hM => vc_134 ω a b (t123n 6 (by decide) (by decide) (fun _ => br_f (by decide) (t123n 4 (by decide) (by decide) (fun n => absurd n c2) (fun _ => br_t rfl ⟨_, rfl, rfl⟩))) (fun n => absurd c1 n))⟩
  · exact ⟨-101, vc_69 om0 a b (t91 (fun n => absurd n c1) (fun _ => br_t rfl ⟨_, rfl, rfl, Mf.o⟩)), fun ω hM => vc_134 ω a b (t123n 6 (by decide) (by decide) (fun n => absurd n c1) (fun _ => br_t rfl ⟨_, rfl, rfl⟩))⟩
theorem g136 {ω : Om} (hz : ω.1 29 15 = 0) {Q : Int32 → Om → Prop} (h : ∀ ω', Q 0 ω') : me_W 136 71 [some (.ref 29), none, none, some (.int 0)] [] ω (fun r ω' => ∃ v, r = some (.int v) ∧ Q v ω') := by
  have key : ∀ n j (ω : Om), j + n = 4 → ω.1 29 15 = 0 → me_W 136 71 [some (.ref 29), none, none, some (.int (nI j))] [] ω (fun r ω' => ∃ v, r = some (.int v) ∧ Q v ω') := by
    intro n
    induction n with
    | zero =>
      intro j ω hj hz
      refine vl_136_71 ω (nI j) (br_t (by rw [show j = 4 by omega]; decide) ⟨_, rfl, ?_⟩)
      rw [hz]
      exact h _
    | succ n ih =>
      intro j ω hj hz
      refine vl_136_71 ω (nI j) (br_f (nI_ge (b := 4) (by omega) (by decide)) ?_)
      rw [hz, show (0 : Int32) = nI 0 from rfl, ix4', nI_1]
      exact ⟨vp_in_nI (by omega) (by decide), ih (j + 1) _ (by omega) hz⟩
  exact key 4 0 ω rfl hz
theorem pr_sleeper (a b : Int32) : PxI 70 [.ref 0, .int a, .int b] 136 [.ref 29, .int a, .int b] := by
  by_cases c1 : vp_in a 5
  · by_cases c2 : vp_in b 100
    · refine ⟨0, vc_70 om0 a b (t18 (fun _ => br_f (by decide) (t93 (fun _ => br_f (by decide) (br_t (by decide) (br_t (by decide) (vc_19 om0 a b (br_f (by decide) (br_f (by decide) ⟨vp_in_nI (n := 0) (by decide) (by decide), vp_in_nI (n := 0) (by decide) (by decide), ?_, ?_⟩)))))) (fun n => absurd c2 n))) (fun n => absurd c1 n)), fun ω hM => vc_136 ω a b (t123n 5 (by decide) (by decide) (fun _ => br_f (by decide) (t123n 100 (by decide) (by decide) (fun _ => br_f (by decide) (br_t (by rw [hM.g.hr]; decide) (br_f (by rw [hM.sl]; decide) ?_))) (fun n => absurd c2 n))) (fun n => absurd c1 n))⟩
      · exact fun _ => ⟨rfl, Or.inl rfl, _, rfl, show (0 : Int32) + 1 - 1 = 0 by decide, Mf_ui (Mf_ui (Mf_ui (Mf_ui (Mf_ui Mf.o (by decide)) (by decide)) (by decide)) (by decide)) (by decide)⟩
      · exact fun _ => ⟨rfl, Or.inl rfl, _, rfl, show (0 : Int32) + 1 - 1 = 0 by decide, Mf_ui (Mf_ui (Mf_ui (Mf_ui (Mf_ui Mf.o (by decide)) (by decide)) (by decide)) (by decide)) (by decide)⟩
      · have hv : vp_in (ω.1 29 15) 7 := by rw [hM.sl]; exact vp_in_nI (n := 0) (by decide) (by decide)
        exact ⟨hv, hv, g136 (ω := ui (ui ω 35 (ω.1 29 15).toNatClampNeg a) 36 (ω.1 29 15).toNatClampNeg b) (Q := fun v _ => v = 0) hM.sl (fun _ => rfl)⟩
    · exact ⟨-102, vc_70 om0 a b (t18 (fun _ => br_f (by decide) (t93 (fun n => absurd n c2) (fun _ => br_t rfl ⟨_, rfl, rfl, Mf.o⟩))) (fun n => absurd c1 n)), fun ω hM => vc_136 ω a b (t123n 5 (by decide) (by decide) (fun _ => br_f (by decide) (t123n 100 (by decide) (by decide) (fun n => absurd n c2) (fun _ => br_t rfl ⟨_, rfl, rfl⟩))) (fun n => absurd c1 n))⟩
  · exact ⟨-102, vc_70 om0 a b (t18 (fun n => absurd n c1) (fun _ => br_t rfl ⟨_, rfl, rfl, Mf.o⟩)), fun ω hM => vc_136 ω a b (t123n 5 (by decide) (by decide) (fun n => absurd n c1) (fun _ => br_t rfl ⟨_, rfl, rfl⟩))⟩
theorem pr_skill (a b c : Int32) : PxI 71 [.ref 0, .int a, .int b, .int c] 137 [.ref 29, .int a, .int b, .int c] :=
  ⟨-101, vc_71 om0 a b c (f20 rfl (br_t rfl ⟨_, rfl, rfl, Mf.o⟩)), fun ω hM => vc_137 ω a b c (g135 hM.sl (br_t rfl ⟨_, rfl, rfl⟩))⟩
theorem pr_harm (a b : Int32) : PxI 72 [.ref 0, .int a, .int b] 138 [.ref 29, .int a, .int b] := by
  have h5 : ∀ j, j < 4 → om0.1 15 j = 50 ∧ om0.1 38 j = 50 := by decide
  by_cases c1 : vp_in a 4
  · by_cases c2 : vp_in b 100
    · refine ⟨50, vc_72 om0 a b (t92 (fun _ => br_f (by decide) (t93 (fun _ => br_f (by decide) (t26 (fun x hx ex => vc_27 om0 a b (t92 (fun _ => br_f (by decide) ⟨c1, rfl, Or.inl rfl, _, rfl, (h5 x hx).1, Mf_ui (Mf_ui Mf.o (by decide)) (by decide)⟩) (fun n => absurd c1 n))) (fun n => absurd c1 n))) (fun n => absurd c2 n))) (fun n => absurd c1 n)), fun ω hM => vc_138 ω a b (t123n 4 (by decide) (by decide) (fun _ => br_f (by decide) (t123n 100 (by decide) (by decide) (fun _ => br_f (by decide) ⟨c1, c1, _, rfl, ?_⟩) (fun n => absurd c2 n))) (fun n => absurd c1 n))⟩
      obtain ⟨x, hx, rfl⟩ := vp_in_of c1 (by decide)
      rw [nI_clamp (by omega), (hM 38 x (by decide)).1]
      exact (h5 x hx).2
    · exact ⟨-102, vc_72 om0 a b (t92 (fun _ => br_f (by decide) (t93 (fun n => absurd n c2) (fun _ => br_t rfl ⟨_, rfl, rfl, Mf.o⟩))) (fun n => absurd c1 n)), fun ω hM => vc_138 ω a b (t123n 4 (by decide) (by decide) (fun _ => br_f (by decide) (t123n 100 (by decide) (by decide) (fun n => absurd n c2) (fun _ => br_t rfl ⟨_, rfl, rfl⟩))) (fun n => absurd c1 n))⟩
  · exact ⟨-101, vc_72 om0 a b (t92 (fun n => absurd n c1) (fun _ => br_t rfl ⟨_, rfl, rfl, Mf.o⟩)), fun ω hM => vc_138 ω a b (t123n 4 (by decide) (by decide) (fun n => absurd n c1) (fun _ => br_t rfl ⟨_, rfl, rfl⟩))⟩
theorem pr_about (a b : Int32) : PxI 73 [.ref 0, .int a, .int b] 142 [.ref 29, .int a, .int b] :=
  ⟨-101, vc_73 om0 a b (f20 rfl (br_t rfl ⟨_, rfl, rfl, Mf.o⟩)), fun ω hM => vc_142 ω a b (g135 hM.sl (br_t rfl ⟨_, rfl, rfl⟩))⟩
theorem pr_as (a b : Int32) : PxI 74 [.ref 0, .int a, .int b] 143 [.ref 29, .int a, .int b] :=
  ⟨-101, vc_74 om0 a b (f20 rfl (br_t rfl ⟨_, rfl, rfl, Mf.o⟩)), fun ω hM => vc_143 ω a b (g135 hM.sl (br_t rfl ⟨_, rfl, rfl⟩))⟩
theorem pr_evening : PxI 76 [.ref 0] 149 [.ref 29] :=
  ⟨0, vc_76 om0 ⟨_, rfl, rfl, Mf_ui (Mf_ui Mf.o (by decide)) (by decide)⟩, fun ω hM => vc_149 ω ⟨_, rfl, (hM 29 19 (by decide)).1⟩⟩
theorem pr_best (c : Int32) : PxJ 77 [.ref 0, .int c] 155 [.ref 29, .int c] := by
  by_cases c1 : vp_in c 2
  · by_cases c0 : c = 0
    · exact ⟨0, f77 Fr.o c1 (fun ω' h => ⟨fun _ => ⟨rfl, h.m⟩, fun n => absurd c0 n⟩), fun ω hM => g155 hM.g c1 (fun ω' _ => ⟨fun _ => rfl, fun n => absurd c0 n⟩)⟩
    · exact ⟨1, f77 Fr.o c1 (fun ω' h => ⟨fun n => absurd n c0, fun _ => ⟨rfl, h.m⟩⟩), fun ω hM => g155 hM.g c1 (fun ω' _ => ⟨fun n => absurd n c0, fun _ => rfl⟩)⟩
  · exact ⟨-102, vc_77 om0 c (t94 (fun n => absurd n c1) (fun _ => br_t rfl ⟨_, rfl, rfl, Mf.o⟩)), fun ω hM => vc_155 ω c (g153 (fun n => absurd n c1) (fun _ => br_t rfl ⟨_, rfl, rfl⟩))⟩
theorem pr_whom (c : Int32) : PxI 78 [.ref 0, .int c] 156 [.ref 29, .int c] := by
  by_cases c1 : vp_in c 4
  · exact ⟨0, f78 Fr.o c1 (fun ω' h => ⟨rfl, h.m⟩), fun ω hM => g156 hM.g c1 (fun ω' _ => rfl)⟩
  · exact ⟨-101, vc_78 om0 c (t92 (fun n => absurd n c1) (fun _ => br_t rfl ⟨_, rfl, rfl, Mf.o⟩)), fun ω hM => vc_156 ω c (t123n 4 (by decide) (by decide) (fun n => absurd n c1) (fun _ => br_t rfl ⟨_, rfl, rfl⟩))⟩
theorem pr_worst : PxI 79 [.ref 0] 158 [.ref 29] := ⟨0, f79 Fr.o (fun ω' h => ⟨rfl, h.m⟩), fun ω hM => g158 hM.g (fun ω' _ => rfl)⟩
theorem pr_known (c : Int32) : PxI 80 [.ref 0, .int c] 162 [.ref 29, .int c] := by
  have e6 : ∀ ω, Mf ω → (6 : Int32) - ω.1 29 16 = 6 := fun ω hM => by rw [hM.g.hr]; decide
  by_cases c1 : vp_in c 15625
  · refine ⟨0, f80 Fr.o c1 (fun ω' h => ⟨rfl, h.m⟩), fun ω hM => vc_162 ω c ?_⟩
    rw [e6 ω hM]
    obtain ⟨x, hx, rfl⟩ := vp_in_of c1 (by decide)
    exact g161 (t123n 15625 (by decide) (by decide) (fun _ => br_f (by decide) (g160 hM.g (by omega) (fun ω' _ => ⟨_, rfl, rfl⟩))) (fun n => absurd c1 n))
  · refine ⟨-102, vc_80 om0 c ⟨fun _ => ⟨_, rfl, rfl, Mf.o⟩, fun n0 => t96n (k := 6) (by decide) (by decide) ⟨fun n1 => absurd ?_ c1, fun _ => ⟨_, rfl, rfl, Mf.o⟩⟩⟩, fun ω hM => vc_162 ω c ?_⟩
    · exact in_mk n0 (fun q => absurd n1 (Int32.not_lt.mpr q)) (c := 15625) rfl (by decide)
    · rw [e6 ω hM]
      exact g161 (t123n 15625 (by decide) (by decide) (fun n => absurd n c1) (fun _ => br_t rfl ⟨_, rfl, rfl⟩))
theorem pr_byRule (c : Int32) : PxJ 81 [.ref 0, .int c] 165 [.ref 29, .int c] := by
  by_cases c1 : vp_in c 2
  · exact ⟨-103, vc_81 om0 c (t94 (fun _ => br_f (by decide) (br_t rfl ⟨_, rfl, rfl, Mf.o⟩)) (fun n => absurd c1 n)), fun ω hM => vc_165 ω c (g153 (fun _ => br_f (by decide) (br_t hM.g.rl ⟨_, rfl, rfl⟩)) (fun n => absurd c1 n))⟩
  · exact ⟨-102, vc_81 om0 c (t94 (fun n => absurd n c1) (fun _ => br_t rfl ⟨_, rfl, rfl, Mf.o⟩)), fun ω hM => vc_165 ω c (g153 (fun n => absurd n c1) (fun _ => br_t rfl ⟨_, rfl, rfl⟩))⟩
theorem pr_worth (a b : Int32) : PxJ 82 [.ref 0, .int a, .int b] 166 [.ref 29, .int a, .int b] :=
  ⟨-101, vc_82 om0 a b (f20 rfl (br_t rfl ⟨_, rfl, rfl, Mf.o⟩)), fun ω hM => vc_166 ω a b (g135 hM.sl (br_t rfl ⟨_, rfl, rfl⟩))⟩
theorem pr_roster (c : Int32) : PxI 83 [.ref 0, .int c] 168 [.ref 29, .int c] := by
  by_cases c1 : vp_in c 1000
  · exact ⟨0, f83 Fr.o c1 (fun ω' h => ⟨rfl, h.m⟩), fun ω hM => vc_168 ω c (t123n 1000 (by decide) (by decide) (fun _ => br_f (by decide) (g167 hM.g (fun q => c1 (Or.inl q)) (fun ω' _ => ⟨_, rfl, rfl⟩))) (fun n => absurd c1 n))⟩
  · refine ⟨-102, vc_83 om0 c ⟨fun _ => ⟨_, rfl, rfl, Mf.o⟩, fun n0 => ⟨fun n1 => absurd ?_ c1, fun _ => ⟨_, rfl, rfl, Mf.o⟩⟩⟩, fun ω hM => vc_168 ω c (t123n 1000 (by decide) (by decide) (fun n => absurd n c1) (fun _ => br_t rfl ⟨_, rfl, rfl⟩))⟩
    exact in_mkl n0 (fun q => absurd n1 (Int32.not_le.mpr q)) (c := 999) rfl (by decide)
theorem f30 {s : Int32} {Q : Int32 → Om → Prop} (h1 : vp_in s 1 → Q 1 om0) (h0 : ¬ vp_in s 1 → Q 0 om0) : me_CtI 30 [.ref 11, .int s] om0 Q := by
  refine vc_30 om0 s (vc_29 om0 s ⟨fun c => ⟨Or.inl rfl, _, rfl, br_t rfl ⟨Or.inl rfl, _, rfl, h0 (in_no1 c)⟩⟩, fun c => f28 rfl ⟨fun c2 => ⟨Or.inl rfl, _, rfl, br_t rfl ⟨Or.inl rfl, _, rfl, h0 (in_no3 (n := 0) c2 rfl (by decide))⟩⟩, fun c2 => ⟨Or.inr rfl, _, rfl, br_f (by decide) (br_t ?_ ⟨Or.inr rfl, _, rfl, h1 (in_mkl (n := 0) c c2 rfl (by decide))⟩)⟩⟩⟩)
  exact Int32.and_zero
theorem pr_seen (c : Int32) : PxI 84 [.ref 0, .int c] 172 [.ref 29, .int c] := by
  by_cases c1 : vp_in c 1
  · exact ⟨-103, vc_84 om0 c (f30 (fun _ => br_f (by decide) (br_t rfl ⟨_, rfl, rfl, Mf.o⟩)) (fun n => absurd c1 n)), fun ω hM => vc_172 ω c (g171 hM.sl (fun _ => br_f (by decide) (br_t hM.g.rl ⟨_, rfl, rfl⟩)) (fun n => absurd c1 n))⟩
  · exact ⟨-102, vc_84 om0 c (f30 (fun n => absurd n c1) (fun _ => br_t rfl ⟨_, rfl, rfl, Mf.o⟩)), fun ω hM => vc_172 ω c (g171 hM.sl (fun n => absurd n c1) (fun _ => br_t rfl ⟨_, rfl, rfl⟩))⟩
theorem pr_sure (c b : Int32) : PxI 85 [.ref 0, .int c, .int b] 173 [.ref 29, .int c, .int b] := by
  by_cases c1 : vp_in c 1
  · by_cases c2 : vp_in b 6
    · exact ⟨-103, vc_85 om0 c b (f30 (fun _ => br_f (by decide) (t91 (fun _ => br_f (by decide) (br_t rfl ⟨_, rfl, rfl, Mf.o⟩)) (fun n => absurd c2 n))) (fun n => absurd c1 n)), fun ω hM => vc_173 ω c b (g171 hM.sl (fun _ => br_f (by decide) (t123n 6 (by decide) (by decide) (fun _ => br_f (by decide) (br_t hM.g.rl ⟨_, rfl, rfl⟩)) (fun n => absurd c2 n))) (fun n => absurd c1 n))⟩
    · exact ⟨-101, vc_85 om0 c b (f30 (fun _ => br_f (by decide) (t91 (fun n => absurd n c2) (fun _ => br_t rfl ⟨_, rfl, rfl, Mf.o⟩))) (fun n => absurd c1 n)), fun ω hM => vc_173 ω c b (g171 hM.sl (fun _ => br_f (by decide) (t123n 6 (by decide) (by decide) (fun n => absurd n c2) (fun _ => br_t rfl ⟨_, rfl, rfl⟩))) (fun n => absurd c1 n))⟩
  · exact ⟨-102, vc_85 om0 c b (f30 (fun n => absurd n c1) (fun _ => br_t rfl ⟨_, rfl, rfl, Mf.o⟩)), fun ω hM => vc_173 ω c b (g171 hM.sl (fun n => absurd n c1) (fun _ => br_t rfl ⟨_, rfl, rfl⟩))⟩
theorem pr_restore : PxI 88 [.ref 0] 178 [.ref 29] :=
  ⟨-103, vc_88 om0 (br_f (by decide) ⟨_, rfl, rfl, Mf.o⟩), fun ω hM => vc_178 ω (br_t (hM 29 30 (by decide)).1 ⟨_, rfl, rfl⟩)⟩
