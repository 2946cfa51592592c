/-! FRACTIONS in lowest terms: both alike -/
def Bn (n : Nat) : Prop := n < 1000000000000000
theorem bd_n {n : Nat} (h : Bn n) : Bd (n : Int) := by
  unfold Bn at h
  exact ⟨by omega, by omega⟩
theorem jI_div {g l : Nat} (hg : Bn g) (hl0 : 0 < l) (hl : Bn l) : jI (g : Int) / jI (l : Int) = jI ((g / l : Nat) : Int) := by
  have hq : g / l ≤ g := Nat.div_le_self g l
  unfold Bn at hg hl
  refine Int64.toInt_inj.mp ?_
  rw [Int64.toInt_div, jI_toInt (bd_n hg), jI_toInt (bd_n hl), jI_toInt (bd_n (show Bn (g / l) from by unfold Bn; omega)), ← Int.ofNat_tdiv]
  generalize g / l = d at hq ⊢
  exact Int.bmod_eq_of_le (by omega) (by omega)
theorem jI_rem {g l : Nat} (hg : Bn g) (hl0 : 0 < l) (hl : Bn l) : jI (g : Int) - jI (g : Int) / jI (l : Int) * jI (l : Int) = jI ((g % l : Nat) : Int) := by
  rw [jI_div hg hl0 hl, jI_mul, jI_sub]
  congr 1
  have h := Nat.div_add_mod g l
  have e : ((g / l : Nat) : Int) * (l : Int) = ((l * (g / l) : Nat) : Int) := by rw [Nat.mul_comm l, Int.natCast_mul]
  rw [e]
  omega
theorem jI_c0 {n : Nat} (h : Bn n) : lg_cmp (jI (n : Int)) (0 : Int64) = 0 ↔ n = 0 := by
  have a := @lc_gt (jI (n : Int)) (jI 0)
  rw [jI_lt ⟨by decide, by decide⟩ (bd_n h)] at a
  constructor
  · intro q
    by_cases z : n = 0
    · exact z
    · have b := a.mpr (by omega)
      have q' : lg_cmp (jI (n : Int)) (jI 0) = 0 := q
      rw [q'] at b
      exact absurd b (by decide)
  · intro z
    rw [z]
    decide
theorem jI_cp {n : Nat} (h : Bn n) : 0 < lg_cmp (jI (n : Int)) (0 : Int64) ↔ 0 < n := by
  have a := @lc_gt (jI (n : Int)) (jI 0)
  rw [jI_lt ⟨by decide, by decide⟩ (bd_n h)] at a
  constructor
  · intro q
    have := a.mp q
    omega
  · intro q
    exact a.mpr (by omega)
theorem jI_ne {n : Nat} (h : Bn n) (h0 : 0 < n) : ¬ jI (n : Int) = 0 := by
  intro e
  have := congrArg Int64.toInt e
  rw [jI_toInt (bd_n h)] at this
  have z : (0 : Int64).toInt = 0 := by decide
  rw [z] at this
  omega
theorem half {l r k : Nat} (h : l < 2 ^ (k + 1)) (hr : 0 < r) (hrl : r < l) : l % r < 2 ^ k := by
  have e : 2 ^ (k + 1) = 2 ^ k * 2 := Nat.pow_succ 2 k
  have m := Nat.mod_lt l hr
  by_cases c : r ≤ 2 ^ k
  · omega
  · have d : l % r = (l - r) % r := by rw [Nat.mod_eq_sub_mod (by omega)]
    have f : (l - r) % r ≤ l - r := Nat.mod_le _ _
    omega
theorem t101 {ω : Om} {g l : Nat} (hg : Bn g) (hl : l < 2 ^ 40) {Q : Int64 → Om → Prop} (q : Q (jI (Nat.gcd g l : Int)) ω) : me_CtJ 101 [.long (jI (g : Int)), .long (jI (l : Int))] ω Q := by
  have b40 : ∀ n, n < 2 ^ 40 → Bn n := fun n hn => by
    unfold Bn
    omega
  have key : ∀ k g l i, Bn g → l < 2 ^ 40 → l < 2 ^ k → i + 2 * k ≤ 99 → Q (jI (Nat.gcd g l : Int)) ω → me_W 101 9 [none, none, none, none, some (.long (jI (g : Int))), none, some (.long (jI (l : Int))), none, some (.int (nI i)), none, none] [] ω (fun r ω' => ∃ v : Int64, r = some (.long v) ∧ Q v ω') := by
    intro k
    induction k with
    | zero =>
      intro g l i hg hl40 hl hi q
      obtain rfl : l = 0 := by
        have : 2 ^ 0 = 1 := rfl
        omega
      rw [Nat.gcd_zero_right] at q
      exact vl_101_9 ω _ _ _ (br_f (nI_ge (b := 100) (by omega) (by decide)) (br_t (by decide) ⟨_, rfl, q⟩))
    | succ k ih =>
      intro g l i hg hl40 hl hi q
      refine vl_101_9 ω _ _ _ (br_f (nI_ge (b := 100) (by omega) (by decide)) ?_)
      by_cases z : l = 0
      · subst z
        rw [Nat.gcd_zero_right] at q
        exact br_t (by decide) ⟨_, rfl, q⟩
      · refine br_f (fun y => z ((jI_c0 (b40 l hl40)).mp y)) ⟨jI_ne (b40 l hl40) (by omega), ?_⟩
        rw [jI_rem hg (by omega) (b40 l hl40), nI_1]
        have hr := Nat.mod_lt g (by omega : 0 < l)
        refine vl_101_9 ω _ _ _ (br_f (nI_ge (b := 100) (by omega) (by decide)) ?_)
        have e1 : Nat.gcd g l = Nat.gcd l (g % l) := by rw [Nat.gcd_comm g l, Nat.gcd_rec l g, Nat.gcd_comm]
        rw [e1] at q
        by_cases z2 : g % l = 0
        · rw [z2, Nat.gcd_zero_right] at q
          exact br_t ((jI_c0 (b40 _ (by omega))).mpr z2) ⟨_, rfl, q⟩
        · refine br_f (fun y => z2 ((jI_c0 (b40 _ (by omega))).mp y)) ⟨jI_ne (b40 _ (by omega)) (by omega), ?_⟩
          rw [jI_rem (b40 l hl40) (by omega) (b40 _ (by omega)), nI_1]
          have hh := half hl (by omega : 0 < g % l) hr
          have hr2 := Nat.mod_lt l (by omega : 0 < g % l)
          have e2 : Nat.gcd l (g % l) = Nat.gcd (g % l) (l % (g % l)) := by rw [Nat.gcd_comm l (g % l), Nat.gcd_rec (g % l) l, Nat.gcd_comm]
          rw [e2] at q
          exact ih (g % l) (l % (g % l)) (i + 1 + 1) (b40 _ (by omega)) (by omega) hh (by omega) q
  exact vc_101 ω _ _ (key 40 g l 0 hg hl hl (by decide) q)
/-- the part of a fraction -/
def frN (a b : Nat) (p : Int32) : Nat := (if p = 0 then a else b) / Nat.gcd b a
theorem t102 {ω : Om} {a b : Nat} {p : Int32} (ha : a < 2 ^ 40) (hb0 : 0 < b) (hb : b < 2 ^ 40) {Q : Int64 → Om → Prop} (q : Q (jI (frN a b p : Int)) ω) : me_CtJ 102 [.long (jI (a : Int)), .long (jI (b : Int)), .int p] ω Q := by
  have b40 : ∀ n, n < 2 ^ 40 → Bn n := fun n hn => by
    unfold Bn
    omega
  have gp : 0 < Nat.gcd b a := Nat.gcd_pos_of_pos_left a hb0
  have gl : Nat.gcd b a ≤ b := Nat.gcd_le_left a hb0
  have gb : Bn (Nat.gcd b a) := b40 _ (by omega)
  unfold frN at q
  refine vc_102 ω _ _ _ (t101 (b40 b hb) ha (br_t ((jI_cp gb).mpr gp) ⟨fun c => ⟨jI_ne gb gp, _, rfl, ?_⟩, fun c => ⟨jI_ne gb gp, _, rfl, ?_⟩⟩))
  · rw [if_pos c] at q
    rw [jI_div (b40 a ha) gp gb]
    exact q
  · rw [if_neg c] at q
    rw [jI_div (b40 b hb) gp gb]
    exact q
theorem t152 {ω : Om} {a b : Nat} {p : Int32} (ha : a < 2 ^ 40) (hb0 : 0 < b) (hb : b < 2 ^ 40) {Q : Int64 → Om → Prop} (q : Q (jI (frN a b p : Int)) ω) : me_CtJ 152 [.long (jI (a : Int)), .long (jI (b : Int)), .int p] ω Q := by
  have b40 : ∀ n, n < 2 ^ 40 → Bn n := fun n hn => by
    unfold Bn
    omega
  have gp : 0 < Nat.gcd b a := Nat.gcd_pos_of_pos_left a hb0
  have gl : Nat.gcd b a ≤ b := Nat.gcd_le_left a hb0
  have gb : Bn (Nat.gcd b a) := b40 _ (by omega)
  unfold frN at q
  have key : ∀ n x y, x = n → x < 2 ^ 40 → y < 2 ^ 40 → Nat.gcd y x = Nat.gcd b a → me_W 152 6 [some (.long (jI (a : Int))), none, some (.long (jI (b : Int))), none, some (.int p), some (.long (jI (x : Int))), none, some (.long (jI (y : Int))), none, none, none] [] ω (fun r ω' => ∃ v : Int64, r = some (.long v) ∧ Q v ω') := by
    intro n
    induction n using Nat.strongRecOn with
    | _ n ih =>
      intro x y hn hx hy hg
      refine vl_152_6 ω _ _ _ _ _ ?_
      by_cases z : x = 0
      · subst z
        rw [Nat.gcd_zero_right] at hg
        rw [hg]
        refine br_t (by decide) ⟨fun c => ⟨jI_ne gb gp, _, rfl, ?_⟩, fun c => ⟨jI_ne gb gp, _, rfl, ?_⟩⟩
        · rw [if_pos c] at q
          rw [jI_div (b40 a ha) gp gb]
          exact q
        · rw [if_neg c] at q
          rw [jI_div (b40 b hb) gp gb]
          exact q
      · refine br_f (fun w => z ((jI_c0 (b40 x hx)).mp w)) ⟨jI_ne (b40 x hx) (by omega), ?_⟩
        rw [jI_rem (b40 y hy) (by omega) (b40 x hx)]
        have hr := Nat.mod_lt y (by omega : 0 < x)
        refine ih (y % x) (by omega) (y % x) x rfl (by omega) hx ?_
        rw [← hg, Nat.gcd_comm y x, Nat.gcd_rec x y, Nat.gcd_comm]
  exact vc_152 ω _ _ _ (key a a b rfl ha hb rfl)
theorem t95 {ω : Om} {k : Nat} (hk : k < 7) {Q : Int64 → Om → Prop} (q : Q (jI (10 ^ k)) ω) : me_CtJ 95 [.int (nI k)] ω Q := by
  have key : ∀ k, k < 7 → Int64.ofNat (10 ^ k) = jI (10 ^ k) := by decide
  refine vc_95 ω (nI k) (br_f (nI_pos (by omega)) (br_f (nI_ge (b := 7) hk (by decide)) ⟨vp_in_nI hk (by decide), _, rfl, ?_⟩))
  rw [nI_clamp (by omega), key k hk]
  exact q
theorem t94 {ω : Om} {p : Int32} {Q : Int32 → Om → Prop} (h1 : p = 0 ∨ p = 1 → Q 1 ω) (h0 : ¬ (p = 0 ∨ p = 1) → Q 0 ω) : me_CtI 94 [.int p] ω Q :=
  vc_94 ω p ⟨fun c => ⟨Or.inr rfl, _, rfl, h1 (Or.inl c)⟩, fun c => ⟨fun c2 => ⟨Or.inr rfl, _, rfl, h1 (Or.inr c2)⟩, fun c2 => ⟨Or.inl rfl, _, rfl, h0 (fun z => z.elim c c2)⟩⟩⟩
theorem in_2 {p : Int32} : vp_in p 2 ↔ (p = 0 ∨ p = 1) := by
  constructor
  · intro h
    obtain ⟨j, hj, rfl⟩ := vp_in_of h (by decide)
    match j, hj with
    | 0, _ => exact Or.inl rfl
    | 1, _ => exact Or.inr rfl
  · rintro (h | h)
    · rw [h]; exact vp_in_nI (n := 0) (by decide) (by decide)
    · rw [h]; exact vp_in_nI (n := 1) (by decide) (by decide)
theorem t153 {ω : Om} {p : Int32} {Q : Int32 → Om → Prop} (h1 : p = 0 ∨ p = 1 → Q 1 ω) (h0 : ¬ (p = 0 ∨ p = 1) → Q 0 ω) : me_CtI 153 [.int p] ω Q :=
  vc_153 ω p (t123n 2 (by decide) (by decide) (fun v => ⟨Or.inr rfl, _, rfl, h1 (in_2.mp v)⟩) (fun v => ⟨Or.inl rfl, _, rfl, h0 (fun z => v (in_2.mpr z))⟩))
