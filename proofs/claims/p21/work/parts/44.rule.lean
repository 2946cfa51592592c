/-! THE RULE: whom it wakes -/
def RuP (kd : Nat → Int32) (g : Nat → Nat) (tn : Int32) (H W s : Nat) : Prop := MW (kd s) (W.testBit s) H ∧ ¬ nI (g s) < (10 : Int32) * tn
noncomputable def ruS (P : Nat → Prop) (ord : Nat → Nat) : Nat → Nat → Nat
  | 0, _ => 0
  | n + 1, k => @ite _ (P (ord k)) (Classical.propDecidable _) (2 ^ ord k) (ruS P ord n (k + 1))
theorem ruS_y {P : Nat → Prop} {ord : Nat → Nat} {n k : Nat} (h : P (ord k)) : ruS P ord (n + 1) k = 2 ^ ord k := by
  show @ite _ (P (ord k)) (Classical.propDecidable _) (2 ^ ord k) (ruS P ord n (k + 1)) = _
  rw [if_pos h]
theorem ruS_n {P : Nat → Prop} {ord : Nat → Nat} {n k : Nat} (h : ¬ P (ord k)) : ruS P ord (n + 1) k = ruS P ord n (k + 1) := by
  show @ite _ (P (ord k)) (Classical.propDecidable _) (2 ^ ord k) (ruS P ord n (k + 1)) = _
  rw [if_neg h]
theorem ruS_lt {P : Nat → Prop} {ord : Nat → Nat} {N : Nat} : ∀ n k, (∀ i, i < k + n → ord i < N) → ruS P ord n k < 2 ^ N
  | 0, _, _ => Nat.pow_pos (by decide)
  | n + 1, k, h => by
    by_cases c : P (ord k)
    · rw [ruS_y c]
      exact Nat.pow_lt_pow_right (by decide) (h k (by omega))
    · rw [ruS_n c]
      exact ruS_lt n (k + 1) (fun i hi => h i (by omega))
def RC (m : Nat) (ord : Nat → Nat) (tn : Int32) (ω : Om) : Prop := ω.1 9 1 = nI m ∧ (∀ k, k < m → ω.1 10 k = nI (ord k)) ∧ ω.1 9 2 = tn
def RM (m : Nat) (ord : Nat → Nat) (tn : Int32) (ω : Om) : Prop := ω.1 29 9 = nI m ∧ (∀ k, k < m → ω.1 33 k = nI (ord k)) ∧ ω.1 29 10 = tn
theorem RC.fr {m : Nat} {ord : Nat → Nat} {tn : Int32} {A B : List Nat} {ω0 ω : Om} (h : RC m ord tn ω0) (hf : Fr A B ω0 ω) (hA : A.contains 9 = false ∧ A.contains 10 = false) : RC m ord tn ω := by
  unfold RC
  rw [hf.1 9 hA.1, hf.1 10 hA.2]
  exact h
theorem RM.fr {m : Nat} {ord : Nat → Nat} {tn : Int32} {A B : List Nat} {ω0 ω : Om} (h : RM m ord tn ω0) (hf : Fr A B ω0 ω) (hA : A.contains 29 = false ∧ A.contains 33 = false) : RM m ord tn ω := by
  unfold RM
  rw [hf.1 29 hA.1, hf.1 33 hA.2]
  exact h
theorem R.rule {ω : Om} (h : R ω) {N : Nat} (hN : N ≤ 7) (e : ω.1 29 15 = nI N) : ∃ (m : Nat) (ord : Nat → Nat) (tn : Int32), m ≤ 7 ∧ (∀ k, k < m → ord k < N) ∧ RC m ord tn ω ∧ RM m ord tn ω := by
  obtain ⟨N', nb, -, -, ⟨t1, m, hm, r1, r2, r3⟩, ⟨g1, -, g3, -⟩, -, -, ⟨-, -, -, -, x5⟩, -⟩ := h
  obtain rfl : N = N' := (nI_eq (by omega) (by omega)).mp (e.symm.trans g3)
  have a : ∀ k, k < m → (ω.1 33 k).toNatClampNeg < N ∧ ω.1 33 k = nI (ω.1 33 k).toNatClampNeg := by
    intro k hk
    obtain ⟨s, hs, es⟩ := x5 k (by omega) (by rw [r2]; exact nI_ge hk (by omega))
    rw [es, nI_clamp (by omega)]
    exact ⟨hs, rfl⟩
  exact ⟨m, fun k => (ω.1 33 k).toNatClampNeg, ω.1 29 10, hm, fun k hk => (a k hk).1, ⟨r1, fun k hk => (r3 k hk).1.trans (a k hk).2, t1⟩, ⟨r2, fun k hk => (a k hk).2, rfl⟩⟩
theorem nurse_off {nb W N : Nat} {kd : Nat → Int32} (hk : ∀ s, s < N → (nb.testBit s = true ↔ kd s = 1)) (hW : W &&& nb = 0) {s : Nat} (hs : s < N) (q : kd s = 1) : W.testBit s = false := by
  have t := (hk s hs).mpr q
  have u := congrArg (fun x => Nat.testBit x s) hW
  simp only [Nat.testBit_and, Nat.zero_testBit, t, Bool.and_true] at u
  exact u
theorem t49 {ω : Om} {k : Nat} (hk : k < 7) {Q : Int32 → Om → Prop} (h : Q (ω.1 10 k) ω) : me_CtI 49 [.ref 9, .int (nI k)] ω Q := by
  refine vc_49 ω (nI k) (br_f (nI_pos (by omega)) (br_f (nI_ge (b := 7) hk (by decide)) ⟨vp_in_nI hk (by decide), _, rfl, ?_⟩))
  rw [nI_clamp (by omega)]
  exact h
theorem t115 {ω : Om} {N nb m : Nat} {kd : Nat → Int32} {sk hm ord : Nat → Nat} {tn : Int32} (hp : HP N nb kd sk hm) (hc : HC N nb kd sk hm ω) (hm7 : m ≤ 7) (ho : ∀ k, k < m → ord k < N) (hr : RC m ord tn ω) {H t W : Nat} (hH : H < 6) (ht : t < 4) (hW : W < 2 ^ N) (hWn : W &&& nb = 0) {Q : Int32 → Om → Prop} (q : Q (nI (ruS (RuP kd (gM kd sk t H) tn H W) ord m 0)) ω) : me_CtI 115 [.ref 0, .int (nI H), .int (nI t), .int (nI W)] ω Q := by
  obtain ⟨hN, hnb, hk, hsk, hhm⟩ := id hp
  obtain ⟨c1, c2, c3, c4, c5⟩ := id hc
  obtain ⟨r1, r2, r3⟩ := hr
  have h7 := pow7 hN
  have key : ∀ n k, k + n = m → Q (nI (ruS (RuP kd (gM kd sk t H) tn H W) ord n k)) ω → me_W 115 3 [some (.ref 0), some (.int (nI H)), some (.int (nI t)), some (.int (nI W)), some (.int (nI k)), none] [] ω (fun r ω' => ∃ v : Int32, r = some (.int v) ∧ Q v ω') := by
    intro n
    induction n with
    | zero =>
      intro k hkm qq
      obtain rfl : k = m := by omega
      exact vl_115_3 ω _ _ _ _ (br_t (by rw [r1]; exact Int32.le_refl _) ⟨_, rfl, qq⟩)
    | succ n ih =>
      intro k hkm q
      have hok := ho k (by omega)
      refine vl_115_3 ω _ _ _ _ (br_f (by rw [r1]; exact nI_ge (by omega) (by omega)) (t49 (by omega) ?_))
      rw [r2 k (by omega), nI_1]
      have skip : ¬ RuP kd (gM kd sk t H) tn H W (ord k) → me_W 115 3 [some (.ref 0), some (.int (nI H)), some (.int (nI t)), some (.int (nI W)), some (.int (nI (k + 1))), none] [] ω (fun r ω' => ∃ v : Int32, r = some (.int v) ∧ Q v ω') := fun z => ih (k + 1) (by omega) (by rw [ruS_n z] at q; exact q)
      have e3 := c3 (ord k) (by omega)
      refine t33 (by omega) hH (by omega) (fun z => nurse_off hk hWn hok (by rw [← e3]; exact z)) (fun w => br_f (by decide) (t34 (by omega) ht hH ?_)) (fun w => br_t rfl (skip (fun z => w (by rw [e3]; exact z.1))))
      rw [e3] at w ⊢
      rw [c4 _ (by omega), mdF_N (hsk _ (by omega)) hH, r3]
      refine ⟨fun z => skip (fun y => y.2 z), fun z => ⟨_, rfl, ?_⟩⟩
      rw [sh2 _ (by omega)]
      rw [ruS_y (P := RuP kd (gM kd sk t H) tn H W) ⟨w, z⟩] at q
      exact q
  exact vc_115 ω _ _ _ (key m 0 (by omega) q)
theorem t163 {ω : Om} {N nb m : Nat} {kd : Nat → Int32} {sk hm ord : Nat → Nat} {tn : Int32} (hp : HP N nb kd sk hm) (hc : HM N kd sk hm ω) (hm7 : m ≤ 7) (ho : ∀ k, k < m → ord k < N) (hr : RM m ord tn ω) {H t W : Nat} (hH : H < 6) (ht : t < 4) (hW : W < 2 ^ N) {Q : Int32 → Om → Prop} (q : Q (nI (ruS (RuP kd (gM kd sk t H) tn H W) ord m 0)) ω) : me_CtI 163 [.ref 29, .int (nI t), .int (nI H), .int (nI W)] ω Q := by
  obtain ⟨hN, hnb, hk, hsk, hhm⟩ := id hp
  obtain ⟨c1, c2, c3, c4⟩ := id hc
  obtain ⟨r1, r2, r3⟩ := hr
  have h7 := pow7 hN
  have key : ∀ n k, k + n = m → Q (nI (ruS (RuP kd (gM kd sk t H) tn H W) ord n k)) ω → me_W 163 3 [some (.ref 29), some (.int (nI t)), some (.int (nI H)), some (.int (nI W)), some (.int (nI k))] [] ω (fun r ω' => ∃ v : Int32, r = some (.int v) ∧ Q v ω') := by
    intro n
    induction n with
    | zero =>
      intro k hkm qq
      obtain rfl : k = m := by omega
      exact vl_163_3 ω _ _ _ _ (br_t (by rw [r1]; exact Int32.le_refl _) ⟨_, rfl, qq⟩)
    | succ n ih =>
      intro k hkm q
      have hok := ho k (by omega)
      have vk : vp_in (nI k) 7 := vp_in_nI (by omega) (by decide)
      refine vl_163_3 ω _ _ _ _ (br_f (by rw [r1]; exact nI_ge (by omega) (by omega)) ⟨vk, ?_⟩)
      rw [nI_clamp (by omega), r2 k (by omega), nI_1]
      have skip : ¬ RuP kd (gM kd sk t H) tn H W (ord k) → me_W 163 3 [some (.ref 29), some (.int (nI t)), some (.int (nI H)), some (.int (nI W)), some (.int (nI (k + 1)))] [] ω (fun r ω' => ∃ v : Int32, r = some (.int v) ∧ Q v ω') := fun z => ih (k + 1) (by omega) (by rw [ruS_n z] at q; exact q)
      have e3 := c2 (ord k) (by omega)
      refine t140 (by omega) hH (by omega) (fun w => br_f (by decide) ⟨vk, ?_⟩) (fun w => br_t rfl (skip (fun z => w (by rw [e3]; exact z.1))))
      rw [e3] at w
      have em : ∀ X : Int32 → Om → Prop, X (nI (gM kd sk t H (ord k))) ω → me_CtI 139 [.ref 29, .int (nI (ord k)), .int (nI t), .int (nI H)] ω X := by
        intro X hX
        refine t139 (by omega) ht hH ?_
        rw [e3, c3 _ (by omega), mdF_N (hsk _ (by omega)) hH]
        exact hX
      rw [r2 k (by omega)]
      refine em _ ?_
      rw [r3, r2 k (by omega)]
      refine ⟨fun z => skip (fun y => y.2 z), fun z => ⟨vk, _, rfl, ?_⟩⟩
      rw [sh2 _ (by omega)]
      rw [ruS_y (P := RuP kd (gM kd sk t H) tn H W) ⟨w, z⟩] at q
      exact q
  exact vc_163 ω _ _ _ (key m 0 (by omega) q)
/-- who was woken then -/
noncomputable def nxW (nb m : Nat) (kd : Nat → Int32) (sk ord : Nat → Nat) (tn : Int32) (H t W : Nat) : Nat := W ||| dif (ruS (RuP kd (gM kd sk t H) tn H W) ord m 0) nb
def Sup (N nb V : Nat) : Prop := V < 2 ^ N ∧ V &&& nb = 0
theorem nxW_sup {N nb m : Nat} {kd : Nat → Int32} {sk ord : Nat → Nat} {tn : Int32} {H t W : Nat} (ho : ∀ k, k < m → ord k < N) (h : Sup N nb W) : Sup N nb (nxW nb m kd sk ord tn H t W) := by
  have hs : ruS (RuP kd (gM kd sk t H) tn H W) ord m 0 < 2 ^ N := ruS_lt m 0 (fun i hi => ho i (by omega))
  exact ⟨Nat.or_lt_two_pow h.1 (dif_lt hs), nw_ok h.2⟩
