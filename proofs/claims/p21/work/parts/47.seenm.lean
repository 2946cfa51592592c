/-! SEEN, the reference: codes, counted -/
def qn (p : Nat → Bool) : Nat → Nat
  | 0 => 0
  | j + 1 => qn p j + (if p j = true then 1 else 0)
theorem qn_y {p : Nat → Bool} {j : Nat} (h : p j = true) : qn p (j + 1) = qn p j + 1 := by
  show qn p j + (if p j = true then 1 else 0) = _
  rw [if_pos h]
theorem qn_n {p : Nat → Bool} {j : Nat} (h : ¬ p j = true) : qn p (j + 1) = qn p j := by
  show qn p j + (if p j = true then 1 else 0) = _
  rw [if_neg h]
  rfl
theorem qn_c {p q : Nat → Bool} : ∀ m, (∀ c, c < m → p c = q c) → qn p m = qn q m
  | 0, _ => rfl
  | m + 1, h => by
    show qn p m + (if p m = true then 1 else 0) = qn q m + (if q m = true then 1 else 0)
    rw [qn_c m (fun c hc => h c (by omega)), h m (by omega)]
theorem qn_f {p : Nat → Bool} (b : Bool) : ∀ m, qn (fun c => b && p c) m = if b = true then qn p m else 0 := by
  intro m
  cases b
  · rw [if_neg (by decide)]
    induction m with
    | zero => rfl
    | succ m ih => rw [qn_n (by simp)]; exact ih
  · rw [if_pos rfl]
    exact qn_c m (fun c _ => by simp)
theorem qn_le {p : Nat → Bool} : ∀ m, qn p m ≤ m
  | 0 => Nat.le_refl _
  | m + 1 => by
    have := qn_le (p := p) m
    by_cases c : p m = true
    · rw [qn_y c]; omega
    · rw [qn_n c]; omega
theorem qn_pos {p : Nat → Bool} : ∀ m, 0 < qn p m ↔ ∃ c, c < m ∧ p c = true
  | 0 => ⟨fun h => absurd h (Nat.lt_irrefl 0), fun ⟨c, h, _⟩ => absurd h (by omega)⟩
  | m + 1 => by
    have ih := qn_pos (p := p) m
    by_cases q : p m = true
    · rw [qn_y q]
      exact ⟨fun _ => ⟨m, by omega, q⟩, fun _ => by omega⟩
    · rw [qn_n q, ih]
      constructor
      · intro ⟨c, h1, h2⟩
        exact ⟨c, by omega, h2⟩
      · intro ⟨c, h1, h2⟩
        by_cases e : c = m
        · rw [e] at h2; exact absurd h2 q
        · exact ⟨c, by omega, h2⟩
theorem qn_5 (p : Nat → Bool) : ∀ m, qn p (5 * m) = qn (fun c => p (5 * c + 0)) m + qn (fun c => p (5 * c + 1)) m + qn (fun c => p (5 * c + 2)) m + qn (fun c => p (5 * c + 3)) m + qn (fun c => p (5 * c + 4)) m
  | 0 => rfl
  | m + 1 => by
    have ih := qn_5 p m
    have e : 5 * (m + 1) = 5 * m + 0 + 1 + 1 + 1 + 1 + 1 := by omega
    rw [e]
    show qn p (5 * m + 0) + (if p (5 * m + 0) = true then 1 else 0) + (if p (5 * m + 1) = true then 1 else 0) + (if p (5 * m + 2) = true then 1 else 0) + (if p (5 * m + 3) = true then 1 else 0) + (if p (5 * m + 4) = true then 1 else 0) = (qn (fun c => p (5 * c + 0)) m + (if p (5 * m + 0) = true then 1 else 0)) + (qn (fun c => p (5 * c + 1)) m + (if p (5 * m + 1) = true then 1 else 0)) + (qn (fun c => p (5 * c + 2)) m + (if p (5 * m + 2) = true then 1 else 0)) + (qn (fun c => p (5 * c + 3)) m + (if p (5 * m + 3) = true then 1 else 0)) + (qn (fun c => p (5 * c + 4)) m + (if p (5 * m + 4) = true then 1 else 0))
    rw [show 5 * m + 0 = 5 * m from rfl, ih]
    generalize (if p (5 * m) = true then 1 else 0) = a0
    generalize (if p (5 * m + 1) = true then 1 else 0) = a1
    generalize (if p (5 * m + 2) = true then 1 else 0) = a2
    generalize (if p (5 * m + 3) = true then 1 else 0) = a3
    generalize (if p (5 * m + 4) = true then 1 else 0) = a4
    omega
noncomputable def cod (st : Nat → Nat → Nat → Nat) (al : Nat → Nat → Bool) (set : Nat) : Nat → Nat → Nat → Bool
  | 0, _, W => decide (W = set)
  | n + 1, c, W => al (5 - n) (c % 5) && cod st al set n (c / 5) (st (5 - n) (c % 5) W)
theorem cod_cnt {st : Nat → Nat → Nat → Nat} {al : Nat → Nat → Bool} {set : Nat} : ∀ n W, ((qn (fun c => cod st al set n c W) (5 ^ n) : Nat) : Int) = cnt st al set n W
  | 0, W => by
    show ((0 + (if decide (W = set) = true then 1 else 0) : Nat) : Int) = if W = set then 1 else 0
    by_cases c : W = set
    · rw [if_pos c, if_pos (decide_eq_true c)]; rfl
    · rw [if_neg c, if_neg (by simp [c])]; rfl
  | n + 1, W => by
    have one : ∀ f, f < 5 → qn (fun c => cod st al set (n + 1) (5 * c + f) W) (5 ^ n) = if al (5 - n) f = true then qn (fun c => cod st al set n c (st (5 - n) f W)) (5 ^ n) else 0 := by
      intro f hf
      rw [← qn_f]
      refine qn_c _ (fun c _ => ?_)
      show (al (5 - n) ((5 * c + f) % 5) && cod st al set n ((5 * c + f) / 5) (st (5 - n) ((5 * c + f) % 5) W)) = _
      rw [show (5 * c + f) % 5 = f by omega, show (5 * c + f) / 5 = c by omega]
    have two : ∀ f, f < 5 → ((qn (fun c => cod st al set (n + 1) (5 * c + f) W) (5 ^ n) : Nat) : Int) = if al (5 - n) f = true then cnt st al set n (st (5 - n) f W) else 0 := by
      intro f hf
      rw [one f hf, ← cod_cnt n]
      by_cases q : al (5 - n) f = true
      · rw [if_pos q, if_pos q]
      · rw [if_neg q, if_neg q]; rfl
    rw [Nat.pow_succ, Nat.mul_comm, qn_5]
    have t0 := two 0 (by decide)
    have t1 := two 1 (by decide)
    have t2' := two 2 (by decide)
    have t3 := two 3 (by decide)
    have t4 := two 4 (by decide)
    show _ = 0 + (if al (5 - n) 0 = true then cnt st al set n (st (5 - n) 0 W) else 0) + (if al (5 - n) 1 = true then cnt st al set n (st (5 - n) 1 W) else 0) + (if al (5 - n) 2 = true then cnt st al set n (st (5 - n) 2 W) else 0) + (if al (5 - n) 3 = true then cnt st al set n (st (5 - n) 3 W) else 0) + (if al (5 - n) 4 = true then cnt st al set n (st (5 - n) 4 W) else 0)
    rw [← t0, ← t1, ← t2', ← t3, ← t4]
    omega
/-- the reference follows one code -/
theorem t169 {ω : Om} {N nb m : Nat} {kd : Nat → Int32} {sk hm ord : Nat → Nat} {tn : Int32} {al : Nat → Nat → Bool} (hp : HP N nb kd sk hm) (hc : HM N kd sk hm ω) (hm7 : m ≤ 7) (ho : ∀ k, k < m → ord k < N) (hr : RM m ord tn ω) (hal : ∀ h, h < 6 → ∀ f, f < 5 → (al h f = true ↔ (f = 0 ∨ ¬ ω.1 31 (4 * h + (f - 1)) = 0))) {c set : Nat} (hcl : c < 15625) (hset : set < 128) {Q : Int32 → Om → Prop} (q : Q (if cod (stW nb m kd sk ord tn) al set 6 c 0 = true then 1 else 0) ω) : me_CtI 169 [.ref 29, .int (nI c), .int (nI set)] ω Q := by
  obtain ⟨hN, hnb, hk, hsk, hhm⟩ := id hp
  have h7 := pow7 hN
  have key : ∀ n h W, h + n = 6 → W < 2 ^ N → Q (if cod (stW nb m kd sk ord tn) al set n (c / 5 ^ h) W = true then 1 else 0) ω → me_W 169 5 [some (.ref 29), some (.int (nI c)), some (.int (nI set)), some (.int (nI W)), some (.int (nI h)), none] [] ω (fun r ω' => ∃ v : Int32, r = some (.int v) ∧ Q v ω') := by
    intro n
    induction n with
    | zero =>
      intro h W hn hW q
      obtain rfl : h = 6 := by omega
      refine vl_169_5 ω _ _ _ _ (br_t (by decide) ⟨fun z => ⟨Or.inr rfl, _, rfl, ?_⟩, fun z => ⟨Or.inl rfl, _, rfl, ?_⟩⟩)
      · have e : W = set := (nI_eq (by omega) (by omega)).mp z
        have q' : Q (if decide (W = set) = true then 1 else 0) ω := q
        rw [if_pos (decide_eq_true e)] at q'
        exact q'
      · have e : ¬ W = set := fun y => z (by rw [y])
        have q' : Q (if decide (W = set) = true then 1 else 0) ω := q
        rw [if_neg (by simp [e])] at q'
        exact q'
    | succ n ih =>
      intro h W hn hW q
      have hf : c / 5 ^ h % 5 < 5 := Nat.mod_lt _ (by decide)
      obtain ⟨f, ef⟩ : ∃ f, f = c / 5 ^ h % 5 := ⟨_, rfl⟩
      rw [← ef] at hf
      have ec : cod (stW nb m kd sk ord tn) al set (n + 1) (c / 5 ^ h) W = (al h f && cod (stW nb m kd sk ord tn) al set n (c / 5 ^ (h + 1)) (stW nb m kd sk ord tn h f W)) := by
        show (al (5 - n) (c / 5 ^ h % 5) && cod (stW nb m kd sk ord tn) al set n (c / 5 ^ h / 5) (stW nb m kd sk ord tn (5 - n) (c / 5 ^ h % 5) W)) = _
        rw [← ef, show 5 - n = h by omega, Nat.div_div_eq_div_mul, ← Nat.pow_succ]
      rw [ec] at q
      have ha := hal h (by omega) f hf
      refine vl_169_5 ω _ _ _ _ (br_f (nI_ge (b := 6) (by omega) (by decide)) (t159 (by omega) (by omega) ?_))
      rw [← ef, nI_1]
      by_cases z : f = 0
      · have e1 : nI f - (1 : Int32) = -1 := by rw [z]; decide
        have e2 : stW nb m kd sk ord tn h f W = W := by
          unfold stW
          rw [if_pos z]
        rw [ha.mpr (Or.inl z), Bool.true_and, e2] at q
        exact br_t e1 (br_t e1 (ih (h + 1) W (by omega) hW q))
      · have e1 : nI f - (1 : Int32) = nI (f - 1) := by rw [show (1 : Int32) = nI 1 from rfl, pk_sub (by omega)]
        have e2 : stW nb m kd sk ord tn h f W = nxW nb m kd sk ord tn h (f - 1) W := by
          unfold stW
          rw [if_neg z]
        rw [e1]
        have m1 : ¬ nI (f - 1) = -1 := m1_ne (by omega)
        refine br_f m1 ?_
        rw [ix4', nI_clamp (by omega)]
        refine ⟨vp_in_nI (by omega) (by decide), fun y => ⟨Or.inl rfl, _, rfl, ?_⟩, fun y => br_f m1 ?_⟩
        · have hn : ¬ al h f = true := fun w => (ha.mp w).elim z (fun u => u y)
          have hn' : al h f = false := by
            cases w : al h f
            · rfl
            · exact absurd w hn
          rw [hn', Bool.false_and] at q
          exact q
        · rw [ha.mpr (Or.inr y), Bool.true_and, e2] at q
          have hs : ruS (RuP kd (gM kd sk (f - 1) h) tn h W) ord m 0 < 2 ^ N := ruS_lt m 0 (fun i hi => ho i (by omega))
          refine t163 hp hc hm7 ho hr (by omega) (by omega) hW (t147 hN hc.1 (by omega) (by omega) ?_)
          have egn : gn (ω.1 35) (ruS (RuP kd (gM kd sk (f - 1) h) tn h W) ord m 0) W N = nxW nb m kd sk ord tn h (f - 1) W := by
            have e35 : ∀ s, s < 7 → ω.1 35 s = kd s := hc.2.1
            have eg : gn (ω.1 35) (ruS (RuP kd (gM kd sk (f - 1) h) tn h W) ord m 0) W N = gn kd (ruS (RuP kd (gM kd sk (f - 1) h) tn h W) ord m 0) W N := by
              refine Nat.eq_of_testBit_eq (fun i => ?_)
              rw [gn_bit, gn_bit]
              by_cases y : i < N
              · rw [e35 i (by omega)]
              · simp [y]
            rw [eg, gn_eq hs hk]
            rfl
          rw [egn]
          have hl : nxW nb m kd sk ord tn h (f - 1) W < 2 ^ N := Nat.or_lt_two_pow hW (dif_lt hs)
          exact ih (h + 1) _ (by omega) hl q
  refine vc_169 ω _ _ (key 6 0 0 (by omega) (Nat.pow_pos (by decide)) ?_)
  rw [Nat.pow_zero, Nat.div_one]
  exact q
/-- all codes; what came in each hour, as bits -/
def Cam (p : Nat → Bool) (j : Nat) (ω : Om) (h : Nat) : Prop := ∃ b : Nat, b < 32 ∧ ω.1 43 h = nI b ∧ ∀ f, f < 5 → (b.testBit f = true ↔ ∃ c, c < j ∧ p c = true ∧ c / 5 ^ h % 5 = f)
theorem t170 {ω : Om} {N nb m : Nat} {kd : Nat → Int32} {sk hm ord : Nat → Nat} {tn : Int32} {al : Nat → Nat → Bool} (hp : HP N nb kd sk hm) (hc : HM N kd sk hm ω) (hm7 : m ≤ 7) (ho : ∀ k, k < m → ord k < N) (hr : RM m ord tn ω) (hal : ∀ h, h < 6 → ∀ f, f < 5 → (al h f = true ↔ (f = 0 ∨ ¬ ω.1 31 (4 * h + (f - 1)) = 0))) {set : Nat} (hset : set < 128) {p : Nat → Bool} (ep : p = fun c => cod (stW nb m kd sk ord tn) al set 6 c 0) {Q : Int32 → Om → Prop} (q : ∀ ω', Fr [43] [] ω ω' → (∀ h, h < 6 → Cam p 15625 ω' h) → Q (nI (qn p 15625)) ω') : me_CtI 170 [.ref 29, .int (nI set)] ω Q := by
  have shl5 : ∀ f, f < 5 → (1 : Int32) <<< (nI f &&& 31) = nI (2 ^ f) := fun f hf => sh2 f (by omega)
  have k47 : ∀ j, j < 15625 → p j = true → (∀ ω', Fr [43] [] ω ω' → (∀ h, h < 6 → Cam p (j + 1) ω' h) → me_W 170 25 [some (.ref 29), some (.int (nI set)), some (.int (nI (qn p (j + 1)))), some (.int (nI (j + 1))), none] [] ω' (fun r ω' => ∃ v : Int32, r = some (.int v) ∧ Q v ω')) → ∀ n i ω', i + n = 6 → Fr [43] [] ω ω' → (∀ h, h < i → Cam p (j + 1) ω' h) → (∀ h, i ≤ h → h < 6 → Cam p j ω' h) → me_W 170 47 [some (.ref 29), some (.int (nI set)), some (.int (nI (qn p (j + 1)))), some (.int (nI j)), some (.int (nI i))] [] ω' (fun r ω' => ∃ v : Int32, r = some (.int v) ∧ Q v ω') := by
    intro j hj hpj next n
    induction n with
    | zero =>
      intro i ω' hi hF h1 h2
      obtain rfl : i = 6 := by omega
      refine vl_170_47 ω' _ _ _ _ (br_t (by decide) ?_)
      rw [nI_1 j]
      exact next ω' hF h1
    | succ n ih =>
      intro i ω' hi hF h1 h2
      have vi : vp_in (nI i) 6 := vp_in_nI (by omega) (by decide)
      have hf : j / 5 ^ i % 5 < 5 := Nat.mod_lt _ (by decide)
      refine vl_170_47 ω' _ _ _ _ (br_f (nI_ge (b := 6) (by omega) (by decide)) ⟨vi, t159 (by omega) (by omega) ⟨vi, ?_⟩⟩)
      obtain ⟨b, hb, eb, ebit⟩ := h2 i (Nat.le_refl _) (by omega)
      have p2 : 2 ^ (j / 5 ^ i % 5) < 32 := Nat.pow_lt_pow_right (a := 2) (n := 5) (by decide) hf
      rw [nI_clamp (by omega), nI_1 i, eb, shl5 _ hf, or_nI (by omega) (by omega)]
      refine ih (i + 1) _ (by omega) (Fr.ui hF rfl) (fun h hh => ?_) (fun h hh hh2 => ?_)
      · by_cases e : h = i
        · subst e
          refine ⟨b ||| 2 ^ (j / 5 ^ h % 5), Nat.or_lt_two_pow (n := 5) hb p2, ui_s, fun f hf5 => ?_⟩
          rw [Nat.testBit_or, Bool.or_eq_true, ebit f hf5, Nat.testBit_two_pow]
          constructor
          · rintro (⟨c, a1, a2, a3⟩ | a)
            · exact ⟨c, by omega, a2, a3⟩
            · exact ⟨j, by omega, hpj, of_decide_eq_true a⟩
          · intro ⟨c, a1, a2, a3⟩
            by_cases y : c = j
            · subst y
              exact Or.inr (decide_eq_true a3)
            · exact Or.inl ⟨c, by omega, a2, a3⟩
        · obtain ⟨b', x1, x2, x3⟩ := h1 h (by omega)
          exact ⟨b', x1, by rw [ui_n e]; exact x2, x3⟩
      · obtain ⟨b', x1, x2, x3⟩ := h2 h (by omega) hh2
        exact ⟨b', x1, by rw [ui_n (by omega)]; exact x2, x3⟩
  have k25 : ∀ n j ω', j + n = 15625 → Fr [43] [] ω ω' → (∀ h, h < 6 → Cam p j ω' h) → me_W 170 25 [some (.ref 29), some (.int (nI set)), some (.int (nI (qn p j))), some (.int (nI j)), none] [] ω' (fun r ω' => ∃ v : Int32, r = some (.int v) ∧ Q v ω') := by
    intro n
    induction n with
    | zero =>
      intro j ω' hj hF h1
      obtain rfl : j = 15625 := by omega
      exact vl_170_25 ω' _ _ _ (br_t (Int32.le_refl _) ⟨_, rfl, q ω' hF h1⟩)
    | succ n ih =>
      intro j ω' hj hF h1
      refine vl_170_25 ω' _ _ _ (br_f (nI_ge (b := 15625) (by omega) (by decide)) ?_)
      rw [nI_1, nI_1]
      refine t169 (al := al) hp (hc.fr hF ⟨rfl, rfl, rfl, rfl⟩) hm7 ho (hr.fr hF ⟨rfl, rfl⟩) (by rw [hF.1 31 rfl]; exact hal) (by omega) hset ?_
      have e : p j = cod (stW nb m kd sk ord tn) al set 6 j 0 := by rw [ep]
      rw [← e]
      by_cases c : p j = true
      · rw [if_pos c]
        have nx : ∀ ω', Fr [43] [] ω ω' → (∀ h, h < 6 → Cam p (j + 1) ω' h) → me_W 170 25 [some (.ref 29), some (.int (nI set)), some (.int (nI (qn p (j + 1)))), some (.int (nI (j + 1))), none] [] ω' (fun r ω' => ∃ v : Int32, r = some (.int v) ∧ Q v ω') := fun ω2 hF2 h2 => ih (j + 1) ω2 (by omega) hF2 h2
        have := k47 j (by omega) c nx 6 0 ω' rfl hF (fun h hh => absurd hh (by omega)) (fun h _ hh => h1 h hh)
        rw [qn_y c] at this
        exact br_f (by decide) this
      · rw [if_neg c]
        have := ih (j + 1) ω' (by omega) hF (fun h hh => by
          obtain ⟨b, x1, x2, x3⟩ := h1 h hh
          refine ⟨b, x1, x2, fun f hf => (x3 f hf).trans ⟨fun ⟨d, a1, a2, a3⟩ => ⟨d, by omega, a2, a3⟩, fun ⟨d, a1, a2, a3⟩ => ?_⟩⟩
          by_cases y : d = j
          · rw [y] at a2; exact absurd a2 c
          · exact ⟨d, by omega, a2, a3⟩)
        rw [qn_n c] at this
        exact br_t rfl this
  have k2 : ∀ n i ω', i + n = 6 → Fr [43] [] ω ω' → (∀ h, h < i → ω'.1 43 h = nI 0) → me_W 170 2 [some (.ref 29), some (.int (nI set)), some (.int (nI i)), none, none] [] ω' (fun r ω' => ∃ v : Int32, r = some (.int v) ∧ Q v ω') := by
    intro n
    induction n with
    | zero =>
      intro i ω' hi hF h1
      obtain rfl : i = 6 := by omega
      refine vl_170_2 ω' _ _ (br_t (by decide) (k25 15625 0 ω' (by omega) hF (fun h hh => ⟨0, by decide, h1 h hh, fun f _ => ?_⟩)))
      rw [Nat.zero_testBit]
      exact ⟨fun z => absurd z (by decide), fun ⟨c, z, _⟩ => absurd z (by omega)⟩
    | succ n ih =>
      intro i ω' hi hF h1
      refine vl_170_2 ω' _ _ (br_f (nI_ge (b := 6) (by omega) (by decide)) ⟨vp_in_nI (by omega) (by decide), ?_⟩)
      rw [nI_clamp (by omega), nI_1]
      refine ih (i + 1) _ (by omega) (Fr.ui hF rfl) (fun h hh => ?_)
      by_cases e : h = i
      · subst e; exact ui_s
      · rw [ui_n e]; exact h1 h (by omega)
  exact vc_170 ω _ (k2 6 0 ω rfl (Fr.o _ _ ω) (fun h hh => absurd hh (by omega)))
theorem t171 {ω : Om} {N nb : Nat} {kd : Nat → Int32} (hN : N ≤ 7) (e : ω.1 29 15 = nI N) (ek : ∀ s, s < 7 → ω.1 35 s = kd s) (hnb : nb < 2 ^ N) (hk : ∀ s, s < N → (nb.testBit s = true ↔ kd s = 1)) {p : Int32} {Q : Int32 → Om → Prop} (h1 : ∀ S, S < 2 ^ N → p = nI S → S &&& nb = 0 → Q 1 ω) (h0 : (∀ S, S < 2 ^ N → p = nI S → ¬ S &&& nb = 0) → Q 0 ω) : me_CtI 171 [.ref 29, .int p] ω Q := by
  have h7 := pow7 hN
  have kb : ∀ n j, j + n = N → (∀ S, S < 2 ^ N → p = nI S → ¬ S &&& nb = 0) → me_W 171 18 [some (.ref 29), some (.int p), some (.int 0), some (.int (nI j))] [] ω (fun r ω' => ∃ v : Int32, r = some (.int v) ∧ Q v ω') := by
    intro n
    induction n with
    | zero =>
      intro j hj hq
      obtain rfl : j = N := by omega
      exact vl_171_18 ω _ _ _ (br_t (by rw [e]; exact Int32.le_refl _) ⟨Or.inl rfl, _, rfl, h0 hq⟩)
    | succ n ih =>
      intro j hj hq
      refine vl_171_18 ω _ _ _ (br_f (by rw [e]; exact nI_ge (by omega) (by omega)) (br_t rfl ?_))
      rw [nI_1]
      exact ih (j + 1) (by omega) hq
  have ka : ∀ S, S < 2 ^ N → p = nI S → ∀ n j, j + n = N → (∀ s, s < j → nb.testBit s = true → S.testBit s = false) → me_W 171 18 [some (.ref 29), some (.int p), some (.int 1), some (.int (nI j))] [] ω (fun r ω' => ∃ v : Int32, r = some (.int v) ∧ Q v ω') := by
    intro S hS eS n
    induction n with
    | zero =>
      intro j hj hq
      obtain rfl : j = N := by omega
      refine vl_171_18 ω _ _ _ (br_t (by rw [e]; exact Int32.le_refl _) ⟨Or.inr rfl, _, rfl, h1 S hS eS ?_⟩)
      refine Nat.eq_of_testBit_eq (fun i => ?_)
      rw [Nat.testBit_and, Nat.zero_testBit]
      cases y : nb.testBit i
      · rw [Bool.and_false]
      · rw [hq i (bit_lt hnb y) y]; rfl
    | succ n ih =>
      intro j hj hq
      refine vl_171_18 ω _ _ _ (br_f (by rw [e]; exact nI_ge (by omega) (by omega)) (br_f (by decide) ⟨vp_in_nI (by omega) (by decide), ?_⟩))
      rw [nI_clamp (by omega), nI_1, eS, bitI (by omega) (by omega), ek j (by omega)]
      rw [eS] at ih kb
      have hkj := hk j (by omega)
      refine ⟨fun c => ?_, fun c => ih (j + 1) (by omega) (fun s hs hb => ?_)⟩
      · cases y : S.testBit j
        · refine br_t rfl (ih (j + 1) (by omega) (fun s hs hb => ?_))
          by_cases z : s = j
          · rw [z]; exact y
          · exact hq s (by omega) hb
        · refine br_f (by decide) (kb n (j + 1) (by omega) (fun T hT eT => ?_))
          obtain rfl : S = T := (nI_eq (by omega) (by omega)).mp eT
          intro z
          have u := congrArg (fun x => Nat.testBit x j) z
          simp only [Nat.testBit_and, Nat.zero_testBit, y, hkj.mpr c] at u
          cases u
      · by_cases z : s = j
        · rw [z] at hb
          exact absurd (hkj.mp hb) c
        · exact hq s (by omega) hb
  refine vc_171 ω p (t123n (2 ^ N) (by decide) (by rw [e]; exact hi_2 N hN) (fun v => ?_) (fun v => ?_))
  · obtain ⟨S, hS, eS⟩ := vp_in_of v (by omega)
    exact ka S hS eS N 0 (by omega) (fun s hs => absurd hs (by omega))
  · exact kb N 0 (by omega) (fun S hS eS => absurd (by rw [eS]; exact vp_in_nI hS (by omega)) v)
