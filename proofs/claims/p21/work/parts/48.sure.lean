/-! SEEN and SURE: both -/
theorem scV {ω ω1 : Om} {B : List Nat} (h : Fr [] B ω ω1) (hB : B.contains 26 = false := by rfl) : Sc ω ω1 := h.sc (hB := hB) (fun i hi => absurd hi (by simp))
theorem scK {ω ω1 : Om} {B : List Nat} (h : Fr [43] B ω ω1) (hB : B.contains 26 = false := by rfl) : Sc ω ω1 := h.sc (hB := hB) (by
  intro i hi k
  simp only [List.mem_cons, List.not_mem_nil, or_false] at hi
  subst hi
  rfl)
def chB (ω : Om) (h t : Nat) : Bool := decide (¬ ω.1 31 (h * 4 + t) ≤ 0)
def alc (ω : Om) (h f : Nat) : Bool := decide (f = 0 ∨ chB ω h (f - 1) = true)
theorem ch_x {x : Nat} (hx : x ≤ 10) : ¬ nI x ≤ 0 ↔ ¬ nI x = 0 := by
  constructor
  · intro h z
    exact h (by rw [z]; decide)
  · intro h z
    have := (nI_leI (b := 0) (by omega) (by decide)).mp z
    exact h (by rw [show x = 0 by omega]; rfl)
theorem s4_le {x : Nat → Nat} (h : ∀ h, s4 x h ≤ 10) (k : Nat) : x k ≤ 10 := by
  have := h (k / 4)
  unfold s4 at this
  have e : k = 4 * (k / 4) ∨ k = 4 * (k / 4) + 1 ∨ k = 4 * (k / 4) + 2 ∨ k = 4 * (k / 4) + 3 := by omega
  rcases e with e | e | e | e
  · rw [e]; omega
  · rw [e]; omega
  · rw [e]; omega
  · rw [e]; omega
theorem alc_m {ω : Om} {x : Nat → Nat} (hx : ∀ k, k < 24 → ω.1 31 k = nI (x k)) (hs : ∀ h, s4 x h ≤ 10) {h f : Nat} (hh : h < 6) (hf : f < 5) : alc ω h f = true ↔ (f = 0 ∨ ¬ ω.1 31 (4 * h + (f - 1)) = 0) := by
  unfold alc chB
  rw [decide_eq_true_iff, decide_eq_true_iff, Nat.mul_comm h 4]
  by_cases z : f = 0
  · exact ⟨fun _ => Or.inl z, fun _ => Or.inl z⟩
  · rw [hx _ (by omega), ch_x (s4_le hs _)]
theorem q_84a {ω : Om} (hR : R ω) (a : Int32) : Pr 84 [.ref 0, .int a] 172 [.ref 29, .int a] ω := by
  intro Q hQ
  obtain ⟨N, nb, H, W, kd, sk, hm, hp, hc, hM, hH, hW, hWn, e1, e2, e3, e4⟩ := hR.house
  obtain ⟨hN, hnb, hk, hsk, hhm⟩ := id hp
  obtain ⟨m, ord, tn, hm7, ho, hrc, hrm⟩ := hR.rule hN hM.1
  obtain ⟨b1, x, hx, hs⟩ := hR.bell
  have h7 := pow7 hN
  have hch : ∀ h, h < 6 → ∀ t, t < 4 → (¬ ω.1 8 (h * 4 + t) ≤ 0 ↔ chB ω h t = true) := fun h hh t ht => by
    rw [b1 _ (by omega)]
    exact decide_eq_true_iff.symm
  refine vc_84 ω a (t30 hN hc.1 hc.2.1 hnb (fun S hS eS hSn => br_f (by decide) ?_) (fun z => br_t rfl ⟨_, rfl, vc_172 ω a (t171 (nb := nb) hN hM.1 hM.2.1 hnb hk (fun S hS eS y => absurd y (z S hS eS)) (fun _ => br_t rfl ⟨_, rfl, hQ _ _ hR⟩))⟩))
  subst eS
  have t171a : ∀ (ω' : Om), ω'.1 29 15 = nI N → (∀ s, s < 7 → ω'.1 35 s = kd s) → ∀ X : Int32 → Om → Prop, X 1 ω' → me_CtI 171 [.ref 29, .int (nI S)] ω' X := fun ω' a1 a2 X hX => t171 (nb := nb) hN a1 a2 hnb hk (fun _ _ _ _ => hX) (fun z => absurd hSn (z S hS rfl))
  by_cases hm0 : m = 0
  · exact br_t (by rw [hrc.1, hm0]; rfl) ⟨_, rfl, vc_172 ω _ (t171a ω hM.1 hM.2.1 _ (br_f (by decide) (br_t (by rw [hrm.1, hm0]; rfl) ⟨_, rfl, hQ _ _ hR⟩)))⟩
  · refine br_f (by rw [hrc.1]; exact nI_ne0 (by omega) (by omega)) (t119 (ch := chB ω) (al := alc ω) hp hc hm7 ho hrc hch (by omega) (fun h hh f hf => ?_) (fun ω1 hF1 n0 n1 => ⟨_, rfl, ?_⟩))
    · unfold alc
      rw [decide_eq_true_iff]
      exact ⟨fun z => ⟨fun y => absurd y (m1_ne (by omega)), z⟩, fun z => z.2⟩
    · have hM1 : HM N kd sk hm ω1 := hM.fr hF1 ⟨rfl, rfl, rfl, rfl⟩
      have hrm1 : RM m ord tn ω1 := hrm.fr hF1 ⟨rfl, rfl⟩
      refine vc_172 ω1 _ (t171a ω1 hM1.1 hM1.2.1 _ (br_f (by decide) (br_f (by rw [hrm1.1]; exact nI_ne0 (by omega) (by omega)) ?_)))
      refine t170 (al := alc ω) (p := fun c => cod (stW nb m kd sk ord tn) (alc ω) S 6 c 0) hp hM1 hm7 ho hrm1 (by rw [hF1.1 31 rfl]; exact fun h hh f hf => alc_m hx hs hh hf) (by omega) rfl (fun ω2 hF2 _ => ⟨_, rfl, ?_⟩)
      have e := cod_cnt (st := stW nb m kd sk ord tn) (al := alc ω) (set := S) 6 0
      have e5 : (5 : Nat) ^ 6 = 15625 := by decide
      rw [e5] at e
      rw [← e, jI_N]
      exact hQ _ _ ((hR.sc (scV hF1)).sc (scK hF2))
/-- the one that is sure, or none -/
def Sur (b : Nat → Prop) (r : Int32) : Prop := (∃ f, f < 5 ∧ b f ∧ (∀ g, g < 5 → b g → g = f) ∧ r = nI f) ∨ ((¬ ∃ f, f < 5 ∧ b f ∧ ∀ g, g < 5 → b g → g = f) ∧ r = -1)
theorem Sur.uniq {b : Nat → Prop} {r r' : Int32} (h : Sur b r) (h' : Sur b r') : r = r' := by
  rcases h with ⟨f, a1, a2, a3, a4⟩ | ⟨a1, a2⟩
  · rcases h' with ⟨g, b1, b2, b3, b4⟩ | ⟨b1, _⟩
    · rw [a4, b4, b3 f a1 a2]
    · exact absurd ⟨f, a1, a2, a3⟩ b1
  · rcases h' with ⟨g, b1, b2, b3, _⟩ | ⟨_, b2⟩
    · exact absurd ⟨g, b1, b2, b3⟩ a1
    · rw [a2, b2]
theorem cod_fx {st : Nat → Nat → Nat → Nat} {al al' : Nat → Nat → Bool} {set hr f0 : Nat} (hh : hr < 6) (e : ∀ h f, al' h f = true ↔ (al h f = true ∧ (h = hr → f = f0))) : ∀ n c W, n ≤ 6 → (cod st al' set n c W = true ↔ (cod st al set n c W = true ∧ (6 - n ≤ hr → c / 5 ^ (hr - (6 - n)) % 5 = f0)))
  | 0, c, W, _ => ⟨fun z => ⟨z, fun y => absurd y (by omega)⟩, fun z => z.1⟩
  | n + 1, c, W, hn => by
    have ih := cod_fx (st := st) (set := set) hh e n (c / 5) (st (5 - n) (c % 5) W) (by omega)
    show (al' (5 - n) (c % 5) && cod st al' set n (c / 5) (st (5 - n) (c % 5) W)) = true ↔ ((al (5 - n) (c % 5) && cod st al set n (c / 5) (st (5 - n) (c % 5) W)) = true ∧ _)
    rw [Bool.and_eq_true, Bool.and_eq_true, ih, e]
    have e6 : 6 - (n + 1) = 5 - n := by omega
    rw [e6]
    by_cases a : 5 - n = hr
    · have ez : hr - (5 - n) = 0 := by omega
      rw [ez, Nat.pow_zero, Nat.div_one]
      constructor
      · intro ⟨⟨a1, a2⟩, a3, a4⟩
        exact ⟨⟨a1, a3⟩, fun _ => a2 a⟩
      · intro ⟨⟨a1, a2⟩, a3⟩
        exact ⟨⟨a1, fun _ => a3 (by omega)⟩, a2, fun y => absurd y (by omega)⟩
    · by_cases b : 5 - n < hr
      · have ez : c / 5 / 5 ^ (hr - (6 - n)) = c / 5 ^ (hr - (5 - n)) := by
          rw [Nat.div_div_eq_div_mul, Nat.mul_comm, ← Nat.pow_succ, show (hr - (6 - n)).succ = hr - (5 - n) by omega]
        rw [ez]
        constructor
        · intro ⟨⟨a1, _⟩, a3, a4⟩
          exact ⟨⟨a1, a3⟩, fun _ => a4 (by omega)⟩
        · intro ⟨⟨a1, a2⟩, a3⟩
          exact ⟨⟨a1, fun y => absurd y a⟩, a2, fun _ => a3 (by omega)⟩
      · constructor
        · intro ⟨⟨a1, _⟩, a3, _⟩
          exact ⟨⟨a1, a3⟩, fun y => absurd y (by omega)⟩
        · intro ⟨⟨a1, a2⟩, _⟩
          exact ⟨⟨a1, fun y => absurd y a⟩, a2, fun y => absurd y (by omega)⟩
theorem q_85a {ω : Om} (hR : R ω) (a b : Int32) : Pr 85 [.ref 0, .int a, .int b] 173 [.ref 29, .int a, .int b] ω := by
  intro Q hQ
  obtain ⟨N, nb, H, W, kd, sk, hm, hp, hc, hM, hH, hW, hWn, e1, e2, e3, e4⟩ := hR.house
  obtain ⟨hN, hnb, hk, hsk, hhm⟩ := id hp
  obtain ⟨m, ord, tn, hm7, ho, hrc, hrm⟩ := hR.rule hN hM.1
  obtain ⟨b1, x, hx, hs⟩ := hR.bell
  have h7 := pow7 hN
  have hch : ∀ h, h < 6 → ∀ t, t < 4 → (¬ ω.1 8 (h * 4 + t) ≤ 0 ↔ chB ω h t = true) := fun h hh t ht => by
    rw [b1 _ (by omega)]
    exact decide_eq_true_iff.symm
  refine vc_85 ω a b (t30 hN hc.1 hc.2.1 hnb (fun S hS eS hSn => br_f (by decide) ?_) (fun z => br_t rfl ⟨_, rfl, vc_173 ω a b (t171 (nb := nb) hN hM.1 hM.2.1 hnb hk (fun S hS eS y => absurd y (z S hS eS)) (fun _ => br_t rfl ⟨_, rfl, hQ _ _ hR⟩))⟩))
  subst eS
  have t171a : ∀ (ω' : Om), ω'.1 29 15 = nI N → (∀ s, s < 7 → ω'.1 35 s = kd s) → ∀ X : Int32 → Om → Prop, X 1 ω' → me_CtI 171 [.ref 29, .int (nI S)] ω' X := fun ω' a1 a2 X hX => t171 (nb := nb) hN a1 a2 hnb hk (fun _ _ _ _ => hX) (fun z => absurd hSn (z S hS rfl))
  by_cases vb : vp_in b 6
  · refine t91 (fun _ => br_f (by decide) ?_) (fun z => absurd vb z)
    by_cases hm0 : m = 0
    · exact br_t (by rw [hrc.1, hm0]; rfl) ⟨_, rfl, vc_173 ω _ _ (t171a ω hM.1 hM.2.1 _ (br_f (by decide) (t123n 6 (by decide) (by decide) (fun _ => br_f (by decide) (br_t (by rw [hrm.1, hm0]; rfl) ⟨_, rfl, hQ _ _ hR⟩)) (fun z => absurd vb z))))⟩
    · refine br_f (by rw [hrc.1]; exact nI_ne0 (by omega) (by omega)) ?_
      obtain ⟨hr, hhr, rfl⟩ := vp_in_of vb (by decide)
      obtain ⟨p, ep⟩ : ∃ p : Nat → Bool, p = fun c => cod (stW nb m kd sk ord tn) (alc ω) S 6 c 0 := ⟨_, rfl⟩
      obtain ⟨bt, ebt⟩ : ∃ bt : Nat → Prop, bt = fun f => ∃ c, c < 15625 ∧ p c = true ∧ c / 5 ^ hr % 5 = f := ⟨_, rfl⟩
      -- the reference
      have mod : ∀ ω1 r, Fr [] [28] ω ω1 → Sur bt r → me_CtI 173 [.ref 29, .int (nI S), .int (nI hr)] ω1 (fun u ω2 => Q r u ω2) := by
        intro ω1 r hF1 hsr
        have hM1 : HM N kd sk hm ω1 := hM.fr hF1 ⟨rfl, rfl, rfl, rfl⟩
        have hrm1 : RM m ord tn ω1 := hrm.fr hF1 ⟨rfl, rfl⟩
        refine vc_173 ω1 _ _ (t171a ω1 hM1.1 hM1.2.1 _ (br_f (by decide) (t123n 6 (by decide) (by decide) (fun _ => br_f (by decide) (br_f (by rw [hrm1.1]; exact nI_ne0 (by omega) (by omega)) ?_)) (fun z => absurd (vp_in_nI hhr (by decide)) z))))
        refine t170 (al := alc ω) (p := p) hp hM1 hm7 ho hrm1 (by rw [hF1.1 31 rfl]; exact fun h hh f hf => alc_m hx hs hh hf) (by omega) ep (fun ω2 hF2 hcam => ?_)
        obtain ⟨cb, c1, c2, c3⟩ := hcam hr hhr
        have hR2 : R ω2 := (hR.sc (scV hF1)).sc (scK hF2)
        have fin : ∀ r', Sur bt r' → Q r r' ω2 := fun r' h' => by
          rw [← hsr.uniq h']
          exact hQ _ _ hR2
        have p2 : ∀ f, f < 5 → 2 ^ f < 32 := by decide
        have key : ∀ n k, k + n = 5 → (∀ f, f < k → ¬ cb = 2 ^ f) → me_W 173 45 [some (.ref 29), none, some (.int (nI hr)), none, some (.int (nI k))] [] ω2 (fun r_1 ω' => ∃ v : Int32, r_1 = some (.int v) ∧ Q r v ω') := by
          intro n
          induction n with
          | zero =>
            intro k hk5 hno
            obtain rfl : k = 5 := by omega
            refine vl_173_45 ω2 _ _ (br_t (by decide) ⟨_, rfl, fin _ (Or.inr ⟨?_, rfl⟩)⟩)
            intro ⟨f, hf, hbf, hu⟩
            refine hno f hf ?_
            have hbit : ∀ i, cb.testBit i = (2 ^ f).testBit i := by
              intro i
              rw [Nat.testBit_two_pow]
              by_cases hi : i < 5
              · by_cases q : f = i
                · subst q
                  rw [decide_eq_true rfl, (c3 f hf).mpr (by rw [ebt] at hbf; exact hbf)]
                · rw [decide_eq_false q]
                  cases y : cb.testBit i
                  · rfl
                  · have := hu i hi (by rw [ebt]; exact (c3 i hi).mp y)
                    exact absurd this.symm q
              · have q5 : cb < 2 ^ i := Nat.lt_of_lt_of_le (show cb < 2 ^ 5 from c1) (Nat.pow_le_pow_right (by decide) (by omega : 5 ≤ i))
                have q6 : ¬ f = i := by omega
                rw [Nat.testBit_lt_two_pow q5, decide_eq_false q6]
            exact Nat.eq_of_testBit_eq hbit
          | succ n ih =>
            intro k hk5 hno
            have hp2 := p2 k (by omega)
            refine vl_173_45 ω2 _ _ (br_f (nI_ge (b := 5) (by omega) (by decide)) ⟨vp_in_nI hhr (by decide), ?_⟩)
            rw [nI_clamp (by omega), c2, sh2 k (by omega), nI_1]
            refine ⟨fun z => ⟨_, rfl, fin _ (Or.inl ⟨k, by omega, ?_, fun g hg hbg => ?_, rfl⟩)⟩, fun z => ih (k + 1) (by omega) (fun f hf => ?_)⟩
            · have ez : cb = 2 ^ k := (nI_eq (by omega) (by omega)).mp z
              rw [ebt]
              exact (c3 k (by omega)).mp (by rw [ez]; exact bit_1 k)
            · have ez : cb = 2 ^ k := (nI_eq (by omega) (by omega)).mp z
              rw [ebt] at hbg
              have := (c3 g hg).mpr hbg
              rw [ez] at this
              exact (p2_bit this).symm
            · by_cases y : f = k
              · rw [y]
                exact fun w => z (by rw [w])
              · exact hno f (by omega)
        exact key 5 0 rfl (fun f hf => absurd hf (by omega))
      -- the class
      have one : ∀ f0, f0 < 5 → ∀ ω1, Fr [] [28] ω ω1 → ∀ X : Int64 → Om → Prop, (∀ (z : Int) (ω2 : Om), Fr [] [28] ω ω2 → 0 ≤ z → z ≤ 15625 → (0 < z ↔ bt f0) → X (jI z) ω2) → me_CtJ 119 [.ref 0, .int (nI S), .int (nI hr), .int (nI f0)] ω1 X := by
        intro f0 hf0 ω1 hF1 X hX
        refine t119 (ch := chB ω) (al := fun h f => alc ω h f && decide (h = hr → f = f0)) hp (hc.fr hF1 ⟨rfl, rfl, rfl, rfl⟩) hm7 ho (hrc.fr hF1 ⟨rfl, rfl⟩) (by rw [hF1.1 8 rfl]; exact hch) (by omega) (fun h hh f hf => ?_) (fun ω2 hF2 n0 n1 => hX _ ω2 (hF1.trans hF2) n0 n1 ?_)
        · unfold alc
          rw [Bool.and_eq_true, decide_eq_true_iff, decide_eq_true_iff, nI_eq (by omega) (by omega)]
          have m1 : ¬ nI f0 = -1 := m1_ne (by omega)
          constructor
          · intro ⟨z1, z2⟩
            exact ⟨fun y => Or.inr (by rw [z2 y]), z1⟩
          · intro ⟨z1, z2⟩
            exact ⟨z2, fun y => ((nI_eq (by omega) (by omega)).mp ((z1 y).resolve_left m1)).symm⟩
        · have e := cod_cnt (st := stW nb m kd sk ord tn) (al := fun h f => alc ω h f && decide (h = hr → f = f0)) (set := S) 6 0
          have e5 : (5 : Nat) ^ 6 = 15625 := by decide
          rw [e5] at e
          rw [← e]
          have ex : (0 < ((qn (fun c => cod (stW nb m kd sk ord tn) (fun h f => alc ω h f && decide (h = hr → f = f0)) S 6 c 0) 15625 : Nat) : Int)) ↔ 0 < qn (fun c => cod (stW nb m kd sk ord tn) (fun h f => alc ω h f && decide (h = hr → f = f0)) S 6 c 0) 15625 := by omega
          rw [ex, qn_pos, ebt]
          have cf : ∀ c, cod (stW nb m kd sk ord tn) (fun h f => alc ω h f && decide (h = hr → f = f0)) S 6 c 0 = true ↔ (p c = true ∧ c / 5 ^ hr % 5 = f0) := by
            intro c
            rw [cod_fx (al := alc ω) hhr (fun h f => by rw [Bool.and_eq_true, decide_eq_true_iff]) 6 c 0 (by omega), ep]
            exact ⟨fun z => ⟨z.1, z.2 (by omega)⟩, fun z => ⟨z.1, fun _ => z.2⟩⟩
          constructor
          · intro ⟨c, h1, h2⟩
            exact ⟨c, h1, (cf c).mp h2⟩
          · intro ⟨c, h1, h2⟩
            exact ⟨c, h1, (cf c).mpr h2⟩
      have k42 : ∀ n f ω1 (o : Int32), f + n = 5 → Fr [] [28] ω ω1 → ((o = -1 ∧ ∀ g, g < f → ¬ bt g) ∨ ∃ f0, f0 < f ∧ o = nI f0 ∧ bt f0 ∧ ∀ g, g < f → bt g → g = f0) → me_W 85 42 [some (.ref 0), some (.int (nI S)), some (.int (nI hr)), some (.int o), some (.int (nI f))] [] ω1 (fun r ω' => ∃ v : Int32, r = some (.int v) ∧ me_CtI 173 [.ref 29, .int (nI S), .int (nI hr)] ω' (fun u ω2 => Q v u ω2)) := by
        intro n
        induction n with
        | zero =>
          intro f ω1 o hf hF1 ho1
          obtain rfl : f = 5 := by omega
          refine vl_85_42 ω1 _ _ _ _ (br_t (by decide) ⟨_, rfl, mod ω1 o hF1 ?_⟩)
          rcases ho1 with ⟨o1, o2⟩ | ⟨f0, o1, o2, o3, o4⟩
          · exact Or.inr ⟨fun ⟨f, h1, h2, _⟩ => o2 f h1 h2, o1⟩
          · exact Or.inl ⟨f0, o1, o3, o4, o2⟩
        | succ n ih =>
          intro f ω1 o hf hF1 ho1
          refine vl_85_42 ω1 _ _ _ _ (br_f (nI_ge (b := 5) (by omega) (by decide)) (one f (by omega) ω1 hF1 _ (fun z ω2 hF2 z0 z1 hz => ?_)))
          have hcm : (lg_cmp (jI z) (0 : Int64) ≤ 0) ↔ z ≤ 0 := by
            rw [← jI_0]
            exact jI_cle ⟨by omega, by omega⟩ ⟨by decide, by decide⟩
          rw [nI_1]
          refine ⟨fun c => ih (f + 1) ω2 o (by omega) hF2 ?_, fun c => ?_⟩
          · have nb' : ¬ bt f := fun y => by
              have := hz.mpr y
              have := hcm.mp c
              omega
            rcases ho1 with ⟨o1, o2⟩ | ⟨f0, o1, o2, o3, o4⟩
            · refine Or.inl ⟨o1, fun g hg => ?_⟩
              by_cases y : g = f
              · rw [y]; exact nb'
              · exact o2 g (by omega)
            · refine Or.inr ⟨f0, by omega, o2, o3, fun g hg hbg => ?_⟩
              by_cases y : g = f
              · rw [y] at hbg; exact absurd hbg nb'
              · exact o4 g (by omega) hbg
          · have yb : bt f := hz.mp (by
              by_cases y : 0 < z
              · exact y
              · exact absurd (hcm.mpr (by omega)) c)
            rcases ho1 with ⟨o1, o2⟩ | ⟨f0, o1, o2, o3, o4⟩
            · refine br_t o1 (ih (f + 1) ω2 (nI f) (by omega) hF2 (Or.inr ⟨f, by omega, rfl, yb, fun g hg hbg => ?_⟩))
              by_cases y : g = f
              · exact y
              · exact absurd hbg (o2 g (by omega))
            · refine br_f (by rw [o2]; exact m1_ne (by omega)) ⟨_, rfl, mod ω2 _ hF2 (Or.inr ⟨?_, rfl⟩)⟩
              intro ⟨g, h1, h2, h3⟩
              have a1 := h3 f (by omega) yb
              have a2 := h3 f0 (by omega) o3
              omega
      exact k42 5 0 ω (-1) rfl (Fr.o _ _ ω) (Or.inl ⟨rfl, fun g hg => absurd hg (by omega)⟩)
  · exact t91 (fun z => absurd z vb) (fun _ => br_t rfl ⟨_, rfl, vc_173 ω _ _ (t171a ω hM.1 hM.2.1 _ (br_f (by decide) (t123n 6 (by decide) (by decide) (fun z => absurd z vb) (fun _ => br_t rfl ⟨_, rfl, hQ _ _ hR⟩))))⟩)
