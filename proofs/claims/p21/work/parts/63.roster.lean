/-! ROSTER: both -/
theorem R.cost {ω : Om} (h : R ω) : ∀ k, k < 7 → ω.1 13 k = ω.1 36 k := by
  obtain ⟨N, nb, -, -, -, ⟨g1, g2, g3, g4, g5, g6, g7, g8, -⟩, -⟩ := h
  exact g8
theorem E_sub : ∀ N, N < 8 → ∀ S, S < 2 ^ N → 2 ^ N - 1 - S = dif (2 ^ N - 1) S := by decide +kernel
theorem jI_z0 {z : Int} (h : Bd z) : lg_cmp (jI z) (0 : Int64) = 0 ↔ z = 0 := by
  have h0 : Bd 0 := ⟨by decide, by decide⟩
  have a : 0 < lg_cmp (jI z) (jI 0) ↔ 0 < z := by rw [lc_gt, jI_lt h0 h]
  have b : lg_cmp (jI z) (jI 0) < 0 ↔ z < 0 := by rw [lc_lt, jI_lt h h0]
  constructor
  · intro q
    have q' : lg_cmp (jI z) (jI 0) = 0 := q
    rw [q'] at a b
    have a' : ¬ 0 < z := fun y => absurd (a.mpr y) (by decide)
    have b' : ¬ z < 0 := fun y => absurd (b.mpr y) (by decide)
    omega
  · intro q
    rw [q]
    decide
theorem jI_zp {z : Int} (h : Bd z) : 0 < lg_cmp (jI z) (0 : Int64) ↔ 0 < z := by
  have h0 : Bd 0 := ⟨by decide, by decide⟩
  have a : 0 < lg_cmp (jI z) (jI 0) ↔ 0 < z := by rw [lc_gt, jI_lt h0 h]
  exact a
theorem t32 {ω : Om} {N S : Nat} (hN : N ≤ 7) (e : ω.1 11 4 = nI N) (hS : S < 128) {Q : Int32 → Om → Prop} (q : Q (sm S (ω.1 13) N) ω) : me_CtI 32 [.ref 11, .int (nI S)] ω Q := by
  have key : ∀ n j, j + n = N → me_W 32 4 [some (.ref 11), some (.int (nI S)), some (.int (sm S (ω.1 13) j)), some (.int (nI j))] [] ω (fun r ω' => ∃ v : Int32, r = some (.int v) ∧ Q v ω') := by
    intro n
    induction n with
    | zero =>
      intro j hj
      obtain rfl : j = N := by omega
      exact vl_32_4 ω _ _ _ (br_t (by rw [e]; exact Int32.le_refl _) ⟨_, rfl, q⟩)
    | succ n ih =>
      intro j hj
      have i1 := ih (j + 1) (by omega)
      unfold sm at i1
      refine vl_32_4 ω _ _ _ (br_f (by rw [e]; exact nI_ge (by omega) (by omega)) ?_)
      rw [bitI hS (by omega), nI_1]
      cases hb : S.testBit j
      · rw [hb] at i1
        exact br_f (by decide) i1
      · rw [hb] at i1
        refine br_t rfl (vc_22 ω (nI j) (br_f (nI_pos (by omega)) (br_f (nI_ge (b := 7) (by omega) (by decide)) ⟨vp_in_nI (by omega) (by decide), _, rfl, ?_⟩)))
        rw [nI_clamp (by omega)]
        exact i1
  exact vc_32 ω _ (key N 0 (by omega))
/-- the best of those who cost no more -/
def OpR (N : Nat) (ok : Nat → Prop) (G : Nat → Int) (p : Nat) : Prop := p < 2 ^ N ∧ ok p ∧ ∀ S, S < 2 ^ N → ok S → G S < G p ∨ (G S = G p ∧ kyS p ≤ kyS S)
theorem OpR.uniq {N : Nat} {ok : Nat → Prop} {G : Nat → Int} {p p' : Nat} (hN : N ≤ 7) (h : OpR N ok G p) (h' : OpR N ok G p') : p = p' := by
  have h7 := pow7 hN
  obtain ⟨a1, a2, a3⟩ := h
  obtain ⟨b1, b2, b3⟩ := h'
  have c1 := a3 p' b1 b2
  have c2 := b3 p a1 a2
  refine ky_inj (by omega) (by omega) ?_
  rcases c1 with c1 | c1
  · rcases c2 with c2 | c2 <;> omega
  · rcases c2 with c2 | c2 <;> omega
theorem bc_cn {S : Nat} (h : S < 128) : bcF (nI S) = nI (cn S) := by rw [bc_on S h, on_cn S h]
/-- the class, once the plan stands -/
theorem l83 {ω : Om} {N : Nat} (hN : N ≤ 7) (e : ω.1 11 4 = nI N) {G : Nat → Int} (hr : Rw 26 ω 0 N G) (hb : ∀ B, B < 2 ^ N → 0 ≤ G B ∧ G B ≤ 1000000000) {c : Int32} (hc : ¬ c < 0) {P : Option Value → Om → Prop} (q : ∀ p, OpR N (fun S => ¬ c < sm S (ω.1 13) N) G p → P (some (.int (nI p))) ω) : me_W 83 31 [some (.ref 0), some (.int c), some (.int (0 : Int32)), some (.int (nI (2 ^ N - 1))), some (.int (1 : Int32))] [] ω P := by
  have h7 := pow7 hN
  have hp2 := p2_pos N
  have key : ∀ n j b, j + n = 2 ^ N → b < j → ¬ c < sm b (ω.1 13) N → (∀ S, S < j → ¬ c < sm S (ω.1 13) N → G S < G b ∨ (G S = G b ∧ kyS b ≤ kyS S)) → me_W 83 31 [some (.ref 0), some (.int c), some (.int (nI b)), some (.int (nI (2 ^ N - 1))), some (.int (nI j))] [] ω P := by
    intro n
    induction n with
    | zero =>
      intro j b hj hbj hob hall
      obtain rfl : j = 2 ^ N := by omega
      exact vl_83_31 ω _ _ _ _ (br_t (nI_lt (by omega) (by omega)) (q b ⟨hbj, hob, hall⟩))
    | succ n ih =>
      intro j b hj hbj hob hall
      have gj := hb j (by omega)
      have gb := hb b (by omega)
      have r1 : ω.2 26 (0 * 128 + j) = jI (G j) := hr j (by omega)
      have r2 : ω.2 26 (0 * 128 + b) = jI (G b) := hr b (by omega)
      have keep : (¬ c < sm j (ω.1 13) N → G j < G b ∨ (G j = G b ∧ kyS b ≤ kyS j)) → me_W 83 31 [some (.ref 0), some (.int c), some (.int (nI b)), some (.int (nI (2 ^ N - 1))), some (.int (nI (j + 1)))] [] ω P := fun h => ih (j + 1) b (by omega) (by omega) hob (fun S hS ho => by
        by_cases z : S = j
        · subst z; exact h ho
        · exact hall S (by omega) ho)
      refine vl_83_31 ω _ _ _ _ (br_f (nI_nlt (by omega) (by omega)) (br_f (nI_ge (b := 128) (by omega) (by decide)) (t32 hN e (by omega) ?_)))
      rw [nI_1]
      refine ⟨fun z => keep (fun y => absurd z y), fun z => ?_⟩
      refine vc_111 ω _ _ (t58p (h := 0) (by omega) (by omega) (t58p (h := 0) (by omega) (by omega) ?_))
      rw [r1, r2, jI_sub]
      have hz0 := jI_z0 (z := G j - G b) ⟨by omega, by omega⟩
      have hzp := jI_zp (z := G j - G b) ⟨by omega, by omega⟩
      have kj : kyS j = cn j * 128 + j := rfl
      have kb : kyS b = cn b * 128 + b := rfl
      refine ⟨fun y => ⟨Or.inr rfl, _, rfl, br_f (by decide) (ih (j + 1) j (by omega) (by omega) z (fun S hS ho => ?_))⟩, fun y => ⟨fun y2 => t184 (t184 ?_), fun y2 => ⟨Or.inl rfl, _, rfl, br_t rfl (keep (fun _ => Or.inl ?_))⟩⟩⟩
      · have := hzp.mp y
        by_cases w : S = j
        · subst w; exact Or.inr ⟨rfl, Nat.le_refl _⟩
        · rcases hall S (by omega) ho with u | u
          · exact Or.inl (by omega)
          · exact Or.inl (by omega)
      · have e0 := hz0.mp y2
        rw [bc_cn (by omega), bc_cn (by omega)]
        have c1 := cn_le j
        have c2 := cn_le b
        refine ⟨fun w => ⟨Or.inl rfl, _, rfl, br_t rfl (keep (fun _ => Or.inr ⟨by omega, ?_⟩))⟩, fun w => ⟨Or.inr rfl, _, rfl, br_f (by decide) (ih (j + 1) j (by omega) (by omega) z (fun S hS ho => ?_))⟩⟩
        · have := (nI_leI (by omega) (by omega)).mp w
          omega
        · have lt : cn j < cn b := by
            by_cases u : cn j < cn b
            · exact u
            · exact absurd (nI_le (by omega) (by omega)) w
          by_cases w2 : S = j
          · subst w2; exact Or.inr ⟨rfl, Nat.le_refl _⟩
          · rcases hall S (by omega) ho with u | u
            · exact Or.inl (by omega)
            · exact Or.inr ⟨by omega, by omega⟩
      · have a1 : ¬ 0 < G j - G b := fun u => y (hzp.mpr u)
        have a2 : ¬ G j - G b = 0 := fun u => y2 (hz0.mpr u)
        omega
  refine key (2 ^ N - 1) 1 0 (by omega) (by omega) (by rw [sm_0]; exact hc) (fun S hS _ => ?_)
  obtain rfl : S = 0 := by omega
  exact Or.inr ⟨rfl, Nat.le_refl _⟩
/-- the reference -/
theorem t167 {ω : Om} {N nb : Nat} {kd : Nat → Int32} {sk hm x : Nat → Nat} (hp : HP N nb kd sk hm) (hc : HM N kd sk hm ω) (hx : ∀ k, k < 24 → ω.1 31 k = nI (x k)) (hs : ∀ h, s4 x h ≤ 10) {c : Int32} (hcn : ¬ c < 0) {Q : Int32 → Om → Prop} (q : ∀ p ω', Fr [] [39, 40] ω ω' → OpR N (fun S => ¬ c < sm S (ω.1 36) N) (plF N nb kd sk hm x 6) p → Q (nI p) ω') : me_CtI 167 [.ref 29, .int c] ω Q := by
  obtain ⟨hN, hnb, hk, hsk, hhm⟩ := id hp
  have h7 := pow7 hN
  have hp2 := p2_pos N
  obtain ⟨G, eG⟩ : ∃ G, G = plF N nb kd sk hm x 6 := ⟨_, rfl⟩
  rw [← eG] at q
  have bG : ∀ S, S < 2 ^ N → 0 ≤ G S ∧ G S ≤ 1000000000 := fun S hS => by
    rw [eG]
    have a := plF_bd (N := N) (nb := nb) (kd := kd) (sk := sk) hhm hs 6 (by omega) S hS
    have b := hiB_le 6 (by omega)
    omega
  refine vc_167 ω c (t151 (x := x) hp hc hx hs (fun ω1 hF1 hpw hr1 => ?_))
  have e15 : ω1.1 29 15 = nI N := by rw [hF1.1 29 rfl]; exact hc.1
  have e36 : ω1.1 36 = ω.1 36 := hF1.1 36 rfl
  have r0 : ∀ S, S < 2 ^ N → ω1.2 39 (2 ^ N - 1 - S) = jI (G S) := by
    intro S hS
    have a := hr1 0 (by omega) (dif (2 ^ N - 1) S) (dif_lt (E_lt N))
    rw [dif_dif hS, Nat.mul_zero, Nat.zero_add, ← E_sub N (by omega) S hS] at a
    rw [eG]
    exact a
  obtain ⟨ok, eok⟩ : ∃ ok : Nat → Prop, ok = fun S => ¬ c < sm S (ω.1 36) N := ⟨_, rfl⟩
  rw [← eok] at q
  have ok0 : ok 0 := by
    rw [eok]
    show ¬ c < sm 0 (ω.1 36) N
    rw [sm_0]
    exact hcn
  have inv : ∃ IV : Nat → Nat → Nat → Int → Prop, IV = fun k j b m => (k = 0 ∧ j = 0 ∧ b = 0 ∧ m = -1) ∨ (b < 2 ^ N ∧ ok b ∧ m = G b ∧ kyS b < k * 128 + j ∧ ∀ S, S < 2 ^ N → ok S → kyS S < k * 128 + j → G S < G b ∨ (G S = G b ∧ kyS b ≤ kyS S)) := ⟨_, rfl⟩
  obtain ⟨IV, eIV⟩ := inv
  have bM : ∀ k j b m, IV k j b m → -1 ≤ m ∧ m ≤ 1000000000 := by
    intro k j b m h
    rw [eIV] at h
    rcases h with ⟨_, _, _, h⟩ | ⟨h1, _, h, _⟩
    · omega
    · have := bG b h1
      omega
  have skip : ∀ k j b m, j < 2 ^ N → ¬ (cn j = k ∧ ok j) → IV k j b m → IV k (j + 1) b m := by
    intro k j b m hj hn h
    rw [eIV] at h ⊢
    rcases h with ⟨h1, h2, _, _⟩ | ⟨h1, h2, h3, h4, h5⟩
    · refine absurd ⟨?_, ?_⟩ hn
      · rw [h1, h2]; decide
      · rw [h2]; exact ok0
    · refine Or.inr ⟨h1, h2, h3, by omega, fun S hS hP hy => ?_⟩
      by_cases y : kyS S < k * 128 + j
      · exact h5 S hS hP y
      · have e : kyS S = k * 128 + j := by omega
        unfold kyS at e
        have e2 : S = j := by omega
        have e3 : cn S = k := by omega
        rw [e2] at e3 hP
        exact absurd ⟨e3, hP⟩ hn
  have keep : ∀ k j b m, j < 2 ^ N → cn j = k → G j ≤ m → IV k j b m → IV k (j + 1) b m := by
    intro k j b m hj hcj hv h
    have bj := bG j hj
    rw [eIV] at h ⊢
    rcases h with ⟨_, _, _, h4⟩ | ⟨h1, h2, h3, h4, h5⟩
    · omega
    · refine Or.inr ⟨h1, h2, h3, by omega, fun S hS hP hy => ?_⟩
      by_cases y : kyS S < k * 128 + j
      · exact h5 S hS hP y
      · have e : kyS S = k * 128 + j := by omega
        have e1 := e
        unfold kyS at e
        have e2 : S = j := by omega
        rw [e2]
        by_cases z : G j < G b
        · exact Or.inl z
        · refine Or.inr ⟨by omega, ?_⟩
          rw [← e2]
          omega
  have take : ∀ k j b m, j < 2 ^ N → cn j = k → ok j → m < G j → IV k j b m → IV k (j + 1) j (G j) := by
    intro k j b m hj hcj hP hv h
    have ek : kyS j = k * 128 + j := by
      unfold kyS
      rw [hcj]
    rw [eIV] at h ⊢
    refine Or.inr ⟨hj, hP, rfl, by omega, fun S hS hPS hy => ?_⟩
    by_cases y : kyS S < k * 128 + j
    · rcases h with ⟨h1, h2, _, _⟩ | ⟨h1, h2, h3, h4, h5⟩
      · omega
      · rcases h5 S hS hPS y with z | z
        · exact Or.inl (by omega)
        · exact Or.inl (by omega)
    · have e : kyS S = k * 128 + j := by omega
      have e2 : S = j := ky_inj (by omega) (by omega) (by omega)
      rw [e2]
      exact Or.inr ⟨rfl, Nat.le_refl _⟩
  have k45 : ∀ k j b m, k < 8 → j < 2 ^ N → IV k j b m → (∀ b' m', IV k (j + 1) b' m' → me_W 167 33 [some (.ref 29), some (.int c), some (.int (nI (2 ^ N - 1))), some (.int (nI b')), some (.long (jI m')), none, some (.int (nI k)), some (.int (nI (j + 1))), none, none] [] ω1 (fun r ω' => ∃ v : Int32, r = some (.int v) ∧ Q v ω')) → ∀ n s, s + n = N → me_W 167 45 [some (.ref 29), some (.int c), some (.int (nI (2 ^ N - 1))), some (.int (nI b)), some (.long (jI m)), none, some (.int (nI k)), some (.int (nI j)), some (.int (sm j (ω.1 36) s)), some (.int (nI s))] [] ω1 (fun r ω' => ∃ v : Int32, r = some (.int v) ∧ Q v ω') := by
    intro k j b m hk8 hj hI next n
    have bm := bM k j b m hI
    have bj := bG j hj
    induction n with
    | zero =>
      intro s hsn
      obtain rfl : s = N := by omega
      refine vl_167_45 ω1 _ _ _ _ _ _ _ _ ?_
      rw [e15, nI_1 j, pk_sub (by omega), nI_clamp (by omega : 2 ^ s - 1 - j < 2 ^ 31)]
      refine br_t (Int32.le_refl _) (t144 ?_)
      rw [on_cn j (by omega), r0 j hj]
      have c7 := cn_le j
      refine ⟨fun z => ?_, fun z => next b m (skip k j b m hj (fun y => z (by rw [y.1])) hI)⟩
      have hcj : cn j = k := (nI_eq (by omega) (by omega)).mp z
      have eo : ok j ↔ ¬ c < sm j (ω.1 36) s := by rw [eok]
      refine ⟨fun y => next b m (skip k j b m hj (fun w => (eo.mp w.2) y) hI), fun y => ⟨vp_in_nI (by omega) (by decide), ?_⟩⟩
      have hcm : (lg_cmp (jI (G j)) (jI m) ≤ 0) ↔ G j ≤ m := jI_cle ⟨by omega, by omega⟩ ⟨by omega, by omega⟩
      refine ⟨fun w => next b m (keep k j b m hj hcj (hcm.mp w) hI), fun w => ⟨vp_in_nI (by omega) (by decide), next j (G j) (take k j b m hj hcj (eo.mpr y) ?_ hI)⟩⟩
      by_cases u : m < G j
      · exact u
      · exact absurd (hcm.mpr (by omega)) w
    | succ n ih =>
      intro s hsn
      have i1 := ih (s + 1) (by omega)
      unfold sm at i1
      refine vl_167_45 ω1 _ _ _ _ _ _ _ _ ?_
      rw [e15]
      refine br_f (nI_ge (by omega) (by omega)) ?_
      rw [bitI (by omega) (by omega), nI_1 s, nI_clamp (by omega : s < 2 ^ 31), e36]
      cases hb : j.testBit s
      · rw [hb] at i1
        exact br_f (by decide) i1
      · rw [hb] at i1
        exact br_t rfl ⟨vp_in_nI (by omega) (by decide), i1⟩
  have k33 : ∀ k, k < 8 → (∀ b m, IV (k + 1) 0 b m → me_W 167 23 [some (.ref 29), some (.int c), some (.int (nI (2 ^ N - 1))), some (.int (nI b)), some (.long (jI m)), none, some (.int (nI (k + 1))), none, none, none] [] ω1 (fun r ω' => ∃ v : Int32, r = some (.int v) ∧ Q v ω')) → ∀ n j b m, j + n = 2 ^ N → IV k j b m → me_W 167 33 [some (.ref 29), some (.int c), some (.int (nI (2 ^ N - 1))), some (.int (nI b)), some (.long (jI m)), none, some (.int (nI k)), some (.int (nI j)), none, none] [] ω1 (fun r ω' => ∃ v : Int32, r = some (.int v) ∧ Q v ω') := by
    intro k hk8 next n
    induction n with
    | zero =>
      intro j b m hj hI
      obtain rfl : j = 2 ^ N := by omega
      refine vl_167_33 ω1 _ _ _ _ _ _ (br_t (nI_lt (by omega) (by omega)) ?_)
      rw [nI_1]
      refine next b m ?_
      rw [eIV] at hI ⊢
      rcases hI with ⟨_, h2, _, _⟩ | ⟨h1, h2, h3, h4, h5⟩
      · omega
      · refine Or.inr ⟨h1, h2, h3, by omega, fun S hS hP hy => h5 S hS hP ?_⟩
        unfold kyS at hy ⊢
        have := cn_le S
        omega
    | succ n ih =>
      intro j b m hj hI
      exact vl_167_33 ω1 _ _ _ _ _ _ (br_f (nI_nlt (by omega) (by omega)) (k45 k j b m hk8 (by omega) hI (fun b' m' h' => ih (j + 1) b' m' (by omega) h') N 0 (by omega)))
  have k23 : ∀ n k b m, k + n = 8 → IV k 0 b m → me_W 167 23 [some (.ref 29), some (.int c), some (.int (nI (2 ^ N - 1))), some (.int (nI b)), some (.long (jI m)), none, some (.int (nI k)), none, none, none] [] ω1 (fun r ω' => ∃ v : Int32, r = some (.int v) ∧ Q v ω') := by
    intro n
    induction n with
    | zero =>
      intro k b m hk8 hI
      obtain rfl : k = 8 := by omega
      refine vl_167_23 ω1 _ _ _ _ _ (br_t (by decide) ⟨_, rfl, q b ω1 hF1 ?_⟩)
      rw [eIV] at hI
      rcases hI with ⟨h1, _⟩ | ⟨h1, h2, h3, h4, h5⟩
      · omega
      · refine ⟨h1, h2, fun S hS hP => h5 S hS hP ?_⟩
        have := cn_le S
        unfold kyS
        omega
    | succ n ih =>
      intro k b m hk8 hI
      exact vl_167_23 ω1 _ _ _ _ _ (br_f (nI_ge (b := 8) (by omega) (by decide)) (k33 k (by omega) (fun b' m' h' => ih (k + 1) b' m' (by omega) h') (2 ^ N) 0 b m (by omega) hI))
  have eE : ((1 : Int32) <<< ((ω1.1 29 15) &&& 31)) - (1 : Int32) = nI (2 ^ N - 1) := by rw [e15, sh2 N hN, show (1 : Int32) = nI 1 from rfl, pk_sub (by omega)]
  rw [eE]
  have e1 : (-1 : Int64) = jI (-1) := rfl
  rw [e1]
  refine k23 8 0 0 (-1) rfl ?_
  rw [eIV]
  exact Or.inl ⟨rfl, rfl, rfl, rfl⟩
theorem t83 {ω : Om} (hR : R ω) {N nb : Nat} (hp : HP N nb (ω.1 12) (cl (ω.1 14)) (cl (ω.1 15))) (hc : HC N nb (ω.1 12) (cl (ω.1 14)) (cl (ω.1 15)) ω) (hx : ∀ k, k < 24 → ω.1 8 k = nI (clB (ω.1 8) k)) (hs : ∀ h, s4 (clB (ω.1 8)) h ≤ 10) (hY : RY N nb (ω.1 0 11) (ω.2 26) (ω.1 8) (ω.1 12) (ω.1 14) (ω.1 15)) {c : Int32} (h0 : ¬ c < 0) (h1 : c ≤ 999) {Q : Int32 → Om → Prop} (q : ∀ p ω', R ω' → Fr [0, 20, 21, 22, 24] [23, 26] ω ω' → OpR N (fun S => ¬ c < sm S (ω.1 13) N) (plF N nb (ω.1 12) (cl (ω.1 14)) (cl (ω.1 15)) (clB (ω.1 8)) 6) p → Q (nI p) ω') : me_CtI 83 [.ref 0, .int c] ω Q := by
  obtain ⟨hN, hnb, hk, hsk, hhm⟩ := id hp
  refine vc_83 ω c (br_f h0 (br_t h1 (t108R hR hp hc hx hs hY (fun ω1 hR1 hF1 hr1 => ?_))))
  have e4' : ω1.1 11 4 = nI N := by rw [hF1.1 11 rfl]; exact hc.1
  have e13 : ω1.1 13 = ω.1 13 := hF1.1 13 rfl
  refine t28 hN e4' (l83 hN e4' (hr1 0 (by omega)) (fun B hB => ?_) h0 (fun p hop => ⟨_, rfl, q p ω1 hR1 hF1 ?_⟩))
  · have := pl_n (nb := nb) (kd := ω.1 12) (sk := cl (ω.1 14)) hhm hs (n := 6) (by omega) hB
    exact ⟨this.2.2.1, this.2.2.2⟩
  · rw [e13] at hop
    exact hop
theorem in_999 {c : Int32} : vp_in c 1000 ↔ (¬ c < 0 ∧ c ≤ 999) := by
  rw [vp_in_iff, Int32.lt_iff_toInt_lt, Int32.le_iff_toInt_le, Int32.toInt_zero]
  have e : (999 : Int32).toInt = 999 := by decide
  rw [e]
  omega
theorem q_83a {ω : Om} (hR : R ω) (a : Int32) : Pr 83 [.ref 0, .int a] 168 [.ref 29, .int a] ω := by
  intro Q hQ
  obtain ⟨N, nb, H, W, hp, hc, hM, hH, hW, hWn, e1, e2, e3, e4, hx, hxm, hs, hY⟩ := hR.hs
  have hN := hp.1
  by_cases v : vp_in a 1000
  · obtain ⟨v0, v1⟩ := in_999.mp v
    refine t83 hR hp hc hx hs hY v0 v1 (fun p ω1 hR1 hF1 hop => ?_)
    have hM1 : HM N (ω.1 12) (cl (ω.1 14)) (cl (ω.1 15)) ω1 := hM.fr hF1 ⟨rfl, rfl, rfl, rfl⟩
    refine vc_168 ω1 a (t123n 1000 (by decide) (by decide) (fun _ => br_f (by decide) (t167 (x := clB (ω.1 8)) hp hM1 (by rw [hF1.1 31 rfl]; exact hxm) hs v0 (fun p' ω2 hF2 hop' => ⟨_, rfl, ?_⟩))) (fun z => absurd v z))
    have ec : ∀ S, sm S (ω1.1 36) N = sm S (ω.1 13) N := fun S => sm_c N (fun s hsN => by rw [hF1.1 36 rfl]; exact (hR.cost s (by omega)).symm)
    have hop2 : OpR N (fun S => ¬ a < sm S (ω.1 13) N) (plF N nb (ω.1 12) (cl (ω.1 14)) (cl (ω.1 15)) (clB (ω.1 8)) 6) p' := by
      have eo : (fun S => ¬ a < sm S (ω1.1 36) N) = (fun S => ¬ a < sm S (ω.1 13) N) := funext fun S => by rw [ec]
      rw [← eo]
      exact hop'
    rw [hop.uniq hN hop2]
    exact hQ _ _ (hR1.sc (scV hF2))
  · have nv : ¬ (¬ a < 0 ∧ a ≤ 999) := fun z => v (in_999.mpr z)
    exact vc_83 ω a ⟨fun _ => ⟨_, rfl, vc_168 ω a (t123n 1000 (by decide) (by decide) (fun z => absurd z v) (fun _ => br_t rfl ⟨_, rfl, hQ _ _ hR⟩))⟩, fun c => ⟨fun c2 => absurd ⟨c, c2⟩ nv, fun _ => ⟨_, rfl, vc_168 ω a (t123n 1000 (by decide) (by decide) (fun z => absurd z v) (fun _ => br_t rfl ⟨_, rfl, hQ _ _ hR⟩))⟩⟩⟩
