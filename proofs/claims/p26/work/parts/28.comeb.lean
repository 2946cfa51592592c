/-! come, the whole call -/
theorem th_in {x : Int32} : ((-1 : Int64) ≤ x.toInt64 ∧ x.toInt64 ≤ 3) ↔ (x = -1 ∨ vp_in x 4) := by
  rw [Int64.le_iff_toInt_le, Int64.le_iff_toInt_le, Int32.toInt_toInt64, vp_in_iff]
  have e1 : (-1 : Int64).toInt = -1 := by decide
  have e2 : (3 : Int64).toInt = 3 := by decide
  have e3 : (-1 : Int32).toInt = -1 := by decide
  rw [e1, e2]
  constructor
  · intro ⟨a, b⟩
    by_cases q : x.toInt = -1
    · exact Or.inl (Int32.toInt_inj.mp (by rw [q, e3]))
    · exact Or.inr (by omega)
  · intro h
    rcases h with h | h
    · rw [h, e3]; omega
    · omega
theorem hi_2 : ∀ n, n ≤ 7 → ((((1 : Int32) <<< (nI n &&& 31)) - 1).toInt64).toInt = ((2 ^ n : Nat) : Int) - 1 := by decide
/-! the class -/
theorem t75o {ω : Om} {N : Nat} (hN : N ≤ 7) (e : ω.1 11 4 = nI N) {a b : Int32} (hth : a = -1 ∨ vp_in a 4) (hc : ¬ vp_in b (2 ^ N) ∨ ¬ bcF b ≤ 2) {Q : Int32 → Om → Prop} (h : Q (-102) ω) : me_CtI 75 [.ref 0, .int a, .int b] ω Q := by
  refine vc_75 ω a b ⟨fun c => ?_, fun c => t92 (fun _ => br_f (by decide) ?_) (fun q => absurd (hth.resolve_left c) q)⟩
  all_goals
    by_cases v : vp_in b (2 ^ N)
    · exact t29 hN e (fun _ => br_f (by decide) (t184 (br_f (hc.resolve_left (fun q => q v)) ⟨_, rfl, h⟩))) (fun q => absurd v q)
    · exact t29 hN e (fun q => absurd q v) (fun _ => br_t rfl ⟨_, rfl, h⟩)
theorem t75s {ω : Om} {N S H W : Nat} (hN : N ≤ 7) (e : ω.1 11 4 = nI N) (hS : S < 2 ^ N) (hb : bcF (nI S) ≤ 2) (hH : H ≤ 6) (hW : W < 128) (e1 : ω.1 16 0 = nI H) (e2 : ω.1 16 1 = nI W) (hn : ∀ s, s < N → ω.1 12 s = 1 → W.testBit s = false) {a : Int32} (hth : a = -1 ∨ vp_in a 4) (hc : H = 6 ∨ ¬ Al (ω.1 12) S W H ∨ (a = -1 ∧ S ≠ 0)) {Q : Int32 → Om → Prop} (h : Q (-103) ω) : me_CtI 75 [.ref 0, .int a, .int (nI S)] ω Q := by
  have h2 := pow7 hN
  have v : vp_in (nI S) (2 ^ N) := vp_in_nI hS (by omega)
  refine vc_75 ω a (nI S) ⟨fun c => ?_, fun c => t92 (fun _ => br_f (by decide) ?_) (fun q => absurd (hth.resolve_left c) q)⟩
  all_goals
    refine t29 hN e (fun _ => br_f (by decide) (t184 (br_t hb ?_))) (fun q => absurd v q)
    by_cases h6 : H = 6
    · exact br_t (by rw [e1, h6]; decide) ⟨_, rfl, h⟩
    · refine br_f (by rw [e1]; exact nI_ge (b := 6) (by omega) (by decide)) (t105 hN hS (by omega) hW e1 e2 hn (fun q => br_f (by decide) ?_) (fun _ => br_t rfl ⟨_, rfl, h⟩))
      obtain ⟨x, y⟩ := (hc.resolve_left h6).resolve_left (fun z => z q)
      exact br_t x (br_f (nI_ne0 (by omega) (by omega)) ⟨_, rfl, h⟩)
theorem t75y {ω : Om} {N S H W : Nat} (hN : N ≤ 7) (e : ω.1 11 4 = nI N) (hS : S < 2 ^ N) (hb : bcF (nI S) ≤ 2) (hH : H < 6) (hW : W < 128) (e1 : ω.1 16 0 = nI H) (e2 : ω.1 16 1 = nI W) (hn : ∀ s, s < N → ω.1 12 s = 1 → W.testBit s = false) {a : Int32} (hth : a = -1 ∨ vp_in a 4) (hA : Al (ω.1 12) S W H) (hc : a = -1 → S = 0) {md hv : Int32} (hm : ∀ Q : Int32 → Om → Prop, Q md ω → me_CtI 35 [.ref 11, .int (nI S), .int a, .int (ω.1 16 0)] ω Q) (hh : ∀ Q : Int32 → Om → Prop, Q hv ω → me_CtI 26 [.ref 11, .int a] ω Q) {Q : Int32 → Om → Prop} (h : Q md (ui (ui (ui (ui ω 16 1 (ω.1 16 1 ||| (nI S &&& (ω.1 11 5 ^^^ (-1))))) 16 2 (ω.1 16 2 + md)) 16 3 (ω.1 16 3 + (hv - md))) 16 0 (ω.1 16 0 + 1))) : me_CtI 75 [.ref 0, .int a, .int (nI S)] ω Q := by
  have h2 := pow7 hN
  have v : vp_in (nI S) (2 ^ N) := vp_in_nI hS (by omega)
  refine vc_75 ω a (nI S) ⟨fun c => ?_, fun c => t92 (fun _ => br_f (by decide) ?_) (fun q => absurd (hth.resolve_left c) q)⟩
  all_goals
    refine t29 hN e (fun _ => br_f (by decide) (t184 (br_t hb (br_f (by rw [e1]; exact nI_ge (b := 6) (by omega) (by decide)) (t105 hN hS (by omega) hW e1 e2 hn (fun _ => br_f (by decide) ?_) (fun q => absurd hA q)))))) (fun q => absurd v q)
    exact ⟨fun x => br_t (by rw [hc x]; rfl) (hm _ (t31 (hh _ (vc_41 ω _ _ _ ⟨rfl, _, rfl, h⟩)))), fun x => hm _ (t31 (hh _ (vc_41 ω _ _ _ ⟨rfl, _, rfl, h⟩)))⟩
/-! the reference -/
theorem t148o {ω : Om} {N : Nat} (hN : N ≤ 7) (e : ω.1 29 15 = nI N) {a b : Int32} (hth : a = -1 ∨ vp_in a 4) (hc : ¬ vp_in b (2 ^ N) ∨ ¬ onF b ≤ 2) {Q : Int32 → Om → Prop} (h : Q (-102) ω) : me_CtI 148 [.ref 29, .int a, .int b] ω Q := by
  refine vc_148 ω a b (t123 (fun _ => br_f (by decide) (t123n (2 ^ N) (by decide) (by rw [e]; exact hi_2 N hN) (fun v => br_f (by decide) (t144 (br_f (hc.resolve_left (fun q => q v)) ⟨_, rfl, h⟩))) (fun _ => br_t rfl ⟨_, rfl, h⟩))) (fun q => absurd (th_in.mpr hth) q))
theorem t148s {ω : Om} {N S H W : Nat} (hN : N ≤ 7) (e : ω.1 29 15 = nI N) (hS : S < 2 ^ N) (hb : onF (nI S) ≤ 2) (hH : H ≤ 6) (hW : W < 128) (e1 : ω.1 29 16 = nI H) (e2 : ω.1 29 17 = nI W) {a : Int32} (hth : a = -1 ∨ vp_in a 4) (hc : H = 6 ∨ ¬ Al (ω.1 35) S W H ∨ (a = -1 ∧ S ≠ 0)) {Q : Int32 → Om → Prop} (h : Q (-103) ω) : me_CtI 148 [.ref 29, .int a, .int (nI S)] ω Q := by
  have h2 := pow7 hN
  have v : vp_in (nI S) (2 ^ N) := vp_in_nI hS (by omega)
  refine vc_148 ω a (nI S) (t123 (fun _ => br_f (by decide) (t123n (2 ^ N) (by decide) (by rw [e]; exact hi_2 N hN) (fun _ => br_f (by decide) (t144 (br_t hb ?_))) (fun q => absurd v q))) (fun q => absurd (th_in.mpr hth) q))
  by_cases h6 : H = 6
  · exact br_t (by rw [e1, h6]; rfl) ⟨_, rfl, h⟩
  · refine br_f (by rw [e1]; exact fun q => h6 ((nI_eq (b := 6) (by omega) (by decide)).mp q)) ?_
    rw [e1, e2]
    refine t145 hN e hS (by omega) hW (fun q => br_f (by decide) ?_) (fun _ => br_t rfl ⟨_, rfl, h⟩)
    obtain ⟨x, y⟩ := (hc.resolve_left h6).resolve_left (fun z => z q)
    exact br_t x (br_f (nI_nle (by omega) (by omega)) ⟨_, rfl, h⟩)
theorem t148n {ω : Om} {N H W : Nat} (hN : N ≤ 7) (e : ω.1 29 15 = nI N) (hH : H < 6) (hW : W < 128) (e1 : ω.1 29 16 = nI H) (e2 : ω.1 29 17 = nI W) {Q : Int32 → Om → Prop} (h : Q 0 (ui (ui (ui (ui ω 29 18 (ω.1 29 18 + 0)) 29 19 (ω.1 29 19 + 0)) 29 17 (nI (gn (ω.1 35) 0 W N))) 29 16 (ω.1 29 16 + 1))) : me_CtI 148 [.ref 29, .int (-1), .int (nI 0)] ω Q := by
  have v : vp_in (nI 0) (2 ^ N) := vp_in_nI (Nat.pow_pos (by decide)) (Nat.lt_of_le_of_lt (pow7 hN) (by decide))
  refine vc_148 ω (-1) (nI 0) (t123 (fun _ => br_f (by decide) (t123n (2 ^ N) (by decide) (by rw [e]; exact hi_2 N hN) (fun _ => br_f (by decide) (t144 (br_t (by decide) (br_f (by rw [e1]; exact fun q => absurd ((nI_eq (b := 6) (by omega) (by decide)).mp q) (by omega)) ?_)))) (fun q => absurd v q))) (fun q => absurd (th_in.mpr (Or.inl rfl)) q))
  have e' : (ui (ui ω 29 18 (ω.1 29 18 + 0)) 29 19 (ω.1 29 19 + 0)).1 29 15 = nI N := e
  have hA : Al (ω.1 35) 0 W H := fun s _ q => by rw [Nat.zero_testBit] at q; cases q
  have k : me_CtI 147 [.ref 29, .int (nI 0), .int (ω.1 29 17)] (ui (ui ω 29 18 (ω.1 29 18 + 0)) 29 19 (ω.1 29 19 + 0)) (fun v14 ω14 => ∃ v : Int32, some (Value.int 0) = some (.int v) ∧ Q v (ui (ui ω14 29 17 v14) 29 16 (ω14.1 29 16 + 1))) := by
    rw [e2]
    exact t147 hN e' (by decide) hW ⟨_, rfl, h⟩
  have k2 : ∀ X : Int32 → Om → Prop, X 1 ω → me_CtI 145 [.ref 29, .int (nI 0), .int (ω.1 29 16), .int (ω.1 29 17)] ω X := by
    intro X hX
    rw [e1, e2]
    exact t145 hN e (Nat.pow_pos (by decide)) hH hW (fun _ => hX) (fun q => absurd hA q)
  exact k2 _ (br_f (by decide) (br_t rfl (br_t (by decide) (br_t rfl (br_t rfl k)))))
theorem t148t {ω : Om} {N S H W t : Nat} (hN : N ≤ 7) (e : ω.1 29 15 = nI N) (hS : S < 2 ^ N) (hb : onF (nI S) ≤ 2) (hH : H < 6) (hW : W < 128) (e1 : ω.1 29 16 = nI H) (e2 : ω.1 29 17 = nI W) (ht : t < 4) (hA : Al (ω.1 35) S W H) {md : Int32} (hmd : md = if ω.1 38 t < sm S (fun s => mdF (ω.1 35 s) (ω.1 37 (s * 4 + t)) H) N then ω.1 38 t else sm S (fun s => mdF (ω.1 35 s) (ω.1 37 (s * 4 + t)) H) N) {Q : Int32 → Om → Prop} (h : Q md (ui (ui (ui (ui ω 29 18 (ω.1 29 18 + md)) 29 19 (ω.1 29 19 + (ω.1 38 t - md))) 29 17 (nI (gn (ω.1 35) S W N))) 29 16 (ω.1 29 16 + 1))) : me_CtI 148 [.ref 29, .int (nI t), .int (nI S)] ω Q := by
  have h2 := pow7 hN
  have v : vp_in (nI S) (2 ^ N) := vp_in_nI hS (by omega)
  have vt : vp_in (nI t) 4 := vp_in_nI ht (by decide)
  have m1 : ¬ nI t = -1 := m1_ne (by omega)
  refine vc_148 ω (nI t) (nI S) (t123 (fun _ => br_f (by decide) (t123n (2 ^ N) (by decide) (by rw [e]; exact hi_2 N hN) (fun _ => br_f (by decide) (t144 (br_t hb (br_f (by rw [e1]; exact fun q => absurd ((nI_eq (b := 6) (by omega) (by decide)).mp q) (by omega)) ?_)))) (fun q => absurd v q))) (fun q => absurd (th_in.mpr (Or.inr vt)) q))
  have e' : (ui (ui ω 29 18 (ω.1 29 18 + md)) 29 19 (ω.1 29 19 + (ω.1 38 t - md))).1 29 15 = nI N := e
  have k : me_CtI 147 [.ref 29, .int (nI S), .int (ω.1 29 17)] (ui (ui ω 29 18 (ω.1 29 18 + md)) 29 19 (ω.1 29 19 + (ω.1 38 (nI t).toNatClampNeg - md))) (fun v14 ω14 => ∃ v : Int32, some (Value.int md) = some (.int v) ∧ Q v (ui (ui ω14 29 17 v14) 29 16 (ω14.1 29 16 + 1))) := by
    rw [e2, nI_clamp (by omega)]
    exact t147 hN e' (by omega) hW ⟨_, rfl, h⟩
  have k3 : ∀ X : Int32 → Om → Prop, X md ω → me_CtI 146 [.ref 29, .int (nI S), .int (nI t), .int (ω.1 29 16)] ω X := by
    intro X hX
    rw [e1]
    rw [hmd] at hX
    exact t146 hN e (by omega) ht hH hX
  have k2 : ∀ X : Int32 → Om → Prop, X 1 ω → me_CtI 145 [.ref 29, .int (nI S), .int (ω.1 29 16), .int (ω.1 29 17)] ω X := by
    intro X hX
    rw [e1, e2]
    exact t145 hN e hS hH hW (fun _ => hX) (fun q => absurd hA q)
  exact k2 _ (br_f (by decide) (br_f m1 (br_f m1 (k3 _ (br_f m1 ⟨vt, k⟩)))))
/-! both -/
theorem gn_eq {k : Nat → Int32} {N S W nb : Nat} (hS : S < 2 ^ N) (hk : ∀ s, s < N → (nb.testBit s = true ↔ k s = 1)) : gn k S W N = W ||| (S ^^^ (S &&& nb)) := by
  refine Nat.eq_of_testBit_eq (fun i => ?_)
  rw [gn_bit, Nat.testBit_or, Nat.testBit_xor, Nat.testBit_and]
  by_cases c : S.testBit i = true
  · have hi := bit_lt hS c
    have := hk i hi
    rw [c]
    by_cases d : k i = 1
    · have e := this.mpr d
      simp [e, d]
    · have e : nb.testBit i = false := by
        cases q : nb.testBit i
        · rfl
        · exact absurd (this.mp q) d
      simp [e, d, hi]
  · have e : S.testBit i = false := by
      cases q : S.testBit i
      · rfl
      · exact absurd q c
    simp [e]
theorem nw_ok {W S nb : Nat} (h : W &&& nb = 0) : (W ||| (S ^^^ (S &&& nb))) &&& nb = 0 := by
  refine Nat.eq_of_testBit_eq (fun i => ?_)
  have := congrArg (fun x => Nat.testBit x i) h
  simp only [Nat.testBit_and, Nat.zero_testBit] at this
  rw [Nat.testBit_and, Nat.testBit_or, Nat.testBit_xor, Nat.testBit_and, Nat.zero_testBit]
  revert this
  cases W.testBit i <;> cases S.testBit i <;> cases nb.testBit i <;> simp
theorem q_75 {ω : Om} (hR : R ω) (a b : Int32) : Pr 75 [.ref 0, .int a, .int b] 148 [.ref 29, .int a, .int b] ω := by
  intro Q hQ
  obtain ⟨N, nb, h1, h2, h3, ⟨g1, g2, g3, g4, g5, g6, g7, g8, g9, g10, g11⟩, ⟨n1, n2, H, W, hH, n3, n4, hW, hWn, n5, n6⟩, h6⟩ := id hR
  have hp := pow7 g1
  have hW1 : W < 128 := by omega
  have hnm : ∀ s, s < N → ω.1 12 s = 1 → W.testBit s = false := by
    intro s hs q
    rw [g7 s (by omega)] at q
    have t := (g6 s hs).mpr q
    have u := congrArg (fun x => Nat.testBit x s) hWn
    simp only [Nat.testBit_and, Nat.zero_testBit, t, Bool.and_true] at u
    exact u
  have hAl : ∀ S, Al (ω.1 12) S W H ↔ Al (ω.1 35) S W H := by
    intro S
    unfold Al
    constructor
    · intro q s hs hb
      rw [← g7 s hs]; exact q s hs hb
    · intro q s hs hb
      rw [g7 s hs]; exact q s hs hb
  by_cases hth : a = -1 ∨ vp_in a 4
  · by_cases hv : vp_in b (2 ^ N)
    · obtain ⟨S, hS, rfl⟩ := vp_in_of hv (by omega)
      have hbc := bc_on S (by omega)
      by_cases hb : bcF (nI S) ≤ 2
      · have hb' : onF (nI S) ≤ 2 := by rw [← hbc]; exact hb
        by_cases hc : H = 6 ∨ ¬ Al (ω.1 12) S W H ∨ (a = -1 ∧ S ≠ 0)
        · exact t75s g1 g2 hS hb hH hW1 n3 n5 hnm hth hc (t148s g1 g3 hS hb' hH hW1 n4 n6 hth (by rw [← hAl]; exact hc) (hQ _ _ hR))
        · have hH6 : H < 6 := by
            by_cases q : H = 6
            · exact absurd (Or.inl q) hc
            · omega
          have hA : Al (ω.1 12) S W H := by
            by_cases q : Al (ω.1 12) S W H
            · exact q
            · exact absurd (Or.inr (Or.inl q)) hc
          have hS0 : a = -1 → S = 0 := by
            intro q
            by_cases z : S = 0
            · exact z
            · exact absurd (Or.inr (Or.inr ⟨q, z⟩)) hc
          have hsp : nI W ||| (nI S &&& (nI nb ^^^ (-1))) = nI (gn (ω.1 35) S W N) := by
            rw [sp_eq (by omega) (by omega), or_nI (by omega) (Nat.lt_trans (Nat.xor_lt_two_pow (n := 7) (by omega) (Nat.lt_of_le_of_lt Nat.and_le_left (by omega))) (by decide)), gn_eq hS g6]
          have hg1 : gn (ω.1 35) S W N < 2 ^ N := by
            rw [gn_eq hS g6]
            exact Nat.or_lt_two_pow hW (Nat.xor_lt_two_pow hS (Nat.lt_of_le_of_lt Nat.and_le_left hS))
          have hg2 : gn (ω.1 35) S W N &&& nb = 0 := by
            rw [gn_eq hS g6]
            exact nw_ok hWn
          have rn : ∀ md x y : Int32, x = y → RN N nb (ω.1 16 0 + 1) (ω.1 29 16 + 1) (ω.1 16 1 ||| (nI S &&& (ω.1 11 5 ^^^ (-1)))) (nI (gn (ω.1 35) S W N)) (ω.1 16 2 + md) (ω.1 29 18 + md) (ω.1 16 3 + x) (ω.1 29 19 + y) := by
            intro md x y hxy
            refine ⟨by rw [n1], by rw [n2, hxy], H + 1, gn (ω.1 35) S W N, by omega, by rw [n3, nI_1], by rw [n4, nI_1], hg1, hg2, by rw [n5, g5, hsp], rfl⟩
          rcases hth with ha | ha
          · subst ha
            obtain rfl := hS0 rfl
            refine t75y g1 g2 hS hb hH6 hW1 n3 n5 hnm (Or.inl rfl) hA hS0 (md := 0) (hv := 0) (fun X hX => t35 (f := fun _ => 0) g1 g2 (by decide) (fun s _ q => by rw [Nat.zero_testBit] at q; cases q) (hv := 0) (fun Y hY => t26 (fun t ht q => absurd q.symm (m1_ne (by omega))) (fun _ => hY)) (by rw [sm_0]; exact hX)) (fun Y hY => t26 (fun t ht q => absurd q.symm (m1_ne (by omega))) (fun _ => hY)) ?_
            exact t148n (ω := (ui (ui (ui (ui ω 16 1 (ω.1 16 1 ||| (nI 0 &&& (ω.1 11 5 ^^^ (-1))))) 16 2 (ω.1 16 2 + 0)) 16 3 (ω.1 16 3 + (0 - 0))) 16 0 (ω.1 16 0 + 1))) (N := N) (H := H) (W := W) g1 g3 hH6 hW1 n4 n6 (hQ 0 _ ⟨N, nb, h1, h2, h3, ⟨g1, g2, g3, g4, g5, g6, g7, g8, g9, g10, g11⟩, rn 0 (0 - 0) 0 (by decide), h6⟩)
          · obtain ⟨t, ht, rfl⟩ := vp_in_of ha (by decide)
            have hsm : sm S (fun s => mdF (ω.1 12 s) (ω.1 14 (s * 4 + t)) H) N = sm S (fun s => mdF (ω.1 35 s) (ω.1 37 (s * 4 + t)) H) N := sm_c N (fun s hs => by
              show mdF (ω.1 12 s) (ω.1 14 (s * 4 + t)) H = _
              rw [g7 s (by omega), g9 _ (by omega)])
            have hh : ∀ X : Int32 → Om → Prop, X (ω.1 15 t) ω → me_CtI 26 [.ref 11, .int (nI t)] ω X := fun X hX => t26 (fun t' ht' q => by
              obtain rfl : t = t' := (nI_eq (by omega) (by omega)).mp q
              exact hX) (fun q => absurd ha q)
            obtain ⟨md, hmd⟩ : ∃ md : Int32, md = if ω.1 38 t < sm S (fun s => mdF (ω.1 35 s) (ω.1 37 (s * 4 + t)) H) N then ω.1 38 t else sm S (fun s => mdF (ω.1 35 s) (ω.1 37 (s * 4 + t)) H) N := ⟨_, rfl⟩
            refine t75y g1 g2 hS hb hH6 hW1 n3 n5 hnm (Or.inr ha) hA hS0 (md := md) (hv := ω.1 15 t) (fun X hX => ?_) hh ?_
            · rw [n3]
              refine t35 (f := fun s => mdF (ω.1 12 s) (ω.1 14 (s * 4 + t)) H) g1 g2 (by omega) (fun s hs _ Y hY => t34 (by omega) ht hH6 hY) (hv := ω.1 15 t) hh ?_
              rw [hsm, g11 t ht, ← hmd]
              exact hX
            · exact t148t (ω := (ui (ui (ui (ui ω 16 1 (ω.1 16 1 ||| (nI S &&& (ω.1 11 5 ^^^ (-1))))) 16 2 (ω.1 16 2 + md)) 16 3 (ω.1 16 3 + (ω.1 15 t - md))) 16 0 (ω.1 16 0 + 1))) (N := N) (H := H) (W := W) g1 g3 hS hb' hH6 hW1 n4 n6 ht ((hAl S).mp hA) hmd (hQ md _ ⟨N, nb, h1, h2, h3, ⟨g1, g2, g3, g4, g5, g6, g7, g8, g9, g10, g11⟩, rn md (ω.1 15 t - md) (ω.1 38 t - md) (by rw [g11 t ht]), h6⟩)
      · exact t75o g1 g2 hth (Or.inr hb) (t148o g1 g3 hth (Or.inr (by rw [← hbc]; exact hb)) (hQ _ _ hR))
    · exact t75o g1 g2 hth (Or.inl hv) (t148o g1 g3 hth (Or.inl hv) (hQ _ _ hR))
  · exact vc_75 ω a b ⟨fun c => absurd (Or.inl c) hth, fun c => t92 (fun q => absurd (Or.inr q) hth) (fun _ => br_t rfl ⟨_, rfl, vc_148 ω a b (t123 (fun q => absurd (th_in.mp q) hth) (fun _ => br_t rfl ⟨_, rfl, hQ _ _ hR⟩))⟩)⟩
