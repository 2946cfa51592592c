/-! BEST, the reference: the best set, the rows -/
theorem gn_kd {k k' : Nat → Int32} {S W N : Nat} (h : ∀ s, s < N → k s = k' s) : gn k S W N = gn k' S W N := by
  refine Nat.eq_of_testBit_eq (fun i => ?_)
  rw [gn_bit, gn_bit]
  by_cases y : i < N
  · rw [h i y]
  · simp [y]
theorem Al_kd {k k' : Nat → Int32} {S W H : Nat} (h : ∀ s, s < 7 → k s = k' s) : Al k S W H ↔ Al k' S W H := by
  unfold Al
  constructor
  · intro z s hs hb
    rw [← h s hs]; exact z s hs hb
  · intro z s hs hb
    rw [h s hs]; exact z s hs hb
theorem ky_inj {a b : Nat} (ha : a < 128) (hb : b < 128) (h : kyS a = kyS b) : a = b := by
  unfold kyS at h
  omega
theorem Opt.uniq {N : Nat} {kd : Nat → Int32} {H A : Nat} {V : Nat → Int} {p p' : Nat} (hN : N ≤ 7) (h : Opt N kd H A V p) (h' : Opt N kd H A V p') : p = p' := by
  have h7 := pow7 hN
  obtain ⟨a1, a2, a3⟩ := h
  obtain ⟨b1, b2, b3⟩ := h'
  have c1 := a3 p' b1 b2
  have c2 := b3 p a1 a2
  refine ky_inj (by omega) (by omega) ?_
  rcases c1 with c1 | c1
  · rcases c2 with c2 | c2 <;> omega
  · rcases c2 with c2 | c2 <;> omega
theorem Opt.mx {N : Nat} {kd : Nat → Int32} {H A : Nat} {V : Nat → Int} {p : Nat} (h : Opt N kd H A V p) : mxU (Alw kd H A) V (2 ^ N) = V p := by
  obtain ⟨a1, a2, a3⟩ := h
  refine mxU_eq ?_ (fun S hS hP => ?_) ⟨p, Or.inr ⟨a1, a2⟩, rfl⟩
  · rcases a3 0 (Nat.pow_pos (by decide)) (Alw_0 kd H A) with z | z <;> omega
  · rcases a3 S hS hP with z | z <;> omega
/-- a row of the reference's longs: by who is gone -/
def RL (c : Nat) (ω : Om) (h N : Nat) (f : Nat → Int) : Prop := ∀ W, W < 2 ^ N → ω.2 c (128 * h + W) = jI (f (dif (2 ^ N - 1) W))
theorem ix5 {H : Nat} (h : H < 6) : (5 : Int32) - nI H = nI (5 - H) := by rw [show (5 : Int32) = nI 5 from rfl, pk_sub (by omega)]
theorem t150 {ω : Om} {N nb : Nat} {kd : Nat → Int32} {sk hm : Nat → Nat} (hp : HP N nb kd sk hm) (hc : HM N kd sk hm ω) {H t w : Nat} (hH : H < 6) (ht : t < 4) (hw : w < 2 ^ N) {u : Int} {f : Nat → Int} (hu : 0 ≤ u) (hu2 : u ≤ 1000000) (eu : ω.2 40 (5 - H) = jI u) (hr : RL 39 ω (H + 1) N f) (hb : ∀ B, B < 2 ^ N → 0 ≤ f B ∧ f B ≤ 1000000000) {Q : Int32 → Om → Prop} (q : ∀ p, Opt N kd H (dif (2 ^ N - 1) w) (vA N nb (hm t) (gM kd sk t H) u f (dif (2 ^ N - 1) w)) p → Q (nI p) ω) : me_CtI 150 [.ref 29, .int (nI t), .int (nI H), .int (nI w)] ω Q := by
  obtain ⟨hN, hnb, hk, hsk, hhm⟩ := id hp
  have h7 := pow7 hN
  have hp2 := p2_pos N
  have e15 : ω.1 29 15 = nI N := hc.1
  have e35 : ∀ s, s < 7 → ω.1 35 s = kd s := hc.2.1
  have hdw : dif (2 ^ N - 1) w < 2 ^ N := dif_lt (E_lt N)
  obtain ⟨A, eA⟩ : ∃ A, A = dif (2 ^ N - 1) w := ⟨_, rfl⟩
  obtain ⟨V, eV⟩ : ∃ V, V = vA N nb (hm t) (gM kd sk t H) u f A := ⟨_, rfl⟩
  rw [← eA, ← eV] at q
  rw [← eA] at hdw
  have bV : ∀ S, 0 ≤ V S ∧ V S ≤ 2000000000 := by
    intro S
    have a := mul_bd (m := mnd N (hm t) (gM kd sk t H) S) (Nat.lt_of_le_of_lt (mnd_le _ _ _ S) (hhm t ht)) hu hu2
    have b := hb (dif A (dif S nb)) (dif_lt hdw)
    rw [eV]
    show 0 ≤ (mnd N (hm t) (gM kd sk t H) S : Int) * u + f (dif A (dif S nb)) ∧ (mnd N (hm t) (gM kd sk t H) S : Int) * u + f (dif A (dif S nb)) ≤ 2000000000
    omega
  have cnl : ∀ S, cn S ≤ 7 := cn_le
  -- what holds: of all before (by their order) b is the first of the best
  have inv : ∃ IV : Nat → Nat → Nat → Int → Prop, IV = fun k j b m => (k = 0 ∧ j = 0 ∧ b = 0 ∧ m = -1) ∨ (b < 2 ^ N ∧ Alw kd H A b ∧ m = V b ∧ kyS b < k * 128 + j ∧ ∀ S, S < 2 ^ N → Alw kd H A S → kyS S < k * 128 + j → V S < V b ∨ (V S = V b ∧ kyS b ≤ kyS S)) := ⟨_, rfl⟩
  obtain ⟨IV, eIV⟩ := inv
  have bM : ∀ k j b m, IV k j b m → -1 ≤ m ∧ m ≤ 2000000000 := by
    intro k j b m h
    rw [eIV] at h
    rcases h with ⟨_, _, _, h⟩ | ⟨_, _, h, _⟩
    · omega
    · have := bV b
      omega
  have skip : ∀ k j b m, j < 2 ^ N → k < 3 → ¬ (cn j = k ∧ Alw kd H A j) → IV k j b m → IV k (j + 1) b m := by
    intro k j b m hj hk3 hn h
    rw [eIV] at h ⊢
    rcases h with ⟨h1, h2, _, _⟩ | ⟨h1, h2, h3, h4, h5⟩
    · refine absurd ⟨?_, ?_⟩ hn
      · rw [h1, h2]; decide
      · rw [h2]; exact Alw_0 _ _ _
    · refine Or.inr ⟨h1, h2, h3, by omega, fun S hS hP hy => ?_⟩
      by_cases y : kyS S < k * 128 + j
      · exact h5 S hS hP y
      · have e : kyS S = k * 128 + j := by omega
        unfold kyS at e
        have e2 : S = j := by omega
        have e3 : cn S = k := by omega
        rw [e2] at e3 hP
        exact absurd ⟨e3, hP⟩ hn
  have keep : ∀ k j b m, j < 2 ^ N → k < 3 → cn j = k → V j ≤ m → IV k j b m → IV k (j + 1) b m := by
    intro k j b m hj hk3 hcn hv h
    have bj := bV j
    rw [eIV] at h ⊢
    rcases h with ⟨_, _, _, h4⟩ | ⟨h1, h2, h3, h4, h5⟩
    · omega
    · refine Or.inr ⟨h1, h2, h3, by omega, fun S hS hP hy => ?_⟩
      by_cases y : kyS S < k * 128 + j
      · exact h5 S hS hP y
      · have e : kyS S = k * 128 + j := by omega
        have e1 := e
        unfold kyS at e
        have e2 : S = j := by omega
        rw [e2]
        by_cases z : V j < V b
        · exact Or.inl z
        · refine Or.inr ⟨by omega, ?_⟩
          rw [← e2]
          omega
  have take : ∀ k j b m, j < 2 ^ N → k < 3 → cn j = k → Alw kd H A j → m < V j → IV k j b m → IV k (j + 1) j (V j) := by
    intro k j b m hj hk3 hcn hP hv h
    have ek : kyS j = k * 128 + j := by
      unfold kyS
      rw [hcn]
    rw [eIV] at h ⊢
    refine Or.inr ⟨hj, hP, rfl, by omega, fun S hS hPS hy => ?_⟩
    by_cases y : kyS S < k * 128 + j
    · rcases h with ⟨h1, h2, _, _⟩ | ⟨h1, h2, h3, h4, h5⟩
      · omega
      · rcases h5 S hS hPS y with z | z
        · exact Or.inl (by omega)
        · exact Or.inl (by omega)
    · have e : kyS S = k * 128 + j := by omega
      have e2 : S = j := ky_inj (by omega) (by omega) (by omega)
      rw [e2]
      exact Or.inr ⟨rfl, Nat.le_refl _⟩
  have k20 : ∀ k, k < 3 → (∀ b m, IV (k + 1) 0 b m → me_W 150 11 [some (.ref 29), some (.int (nI t)), some (.int (nI H)), some (.int (nI w)), some (.int (nI b)), some (.long (jI m)), none, some (.int (nI (k + 1))), none, none, none] [] ω (fun r ω' => ∃ v : Int32, r = some (.int v) ∧ Q v ω')) → ∀ n j b m, j + n = 2 ^ N → IV k j b m → me_W 150 20 [some (.ref 29), some (.int (nI t)), some (.int (nI H)), some (.int (nI w)), some (.int (nI b)), some (.long (jI m)), none, some (.int (nI k)), some (.int (nI j)), none, none] [] ω (fun r ω' => ∃ v : Int32, r = some (.int v) ∧ Q v ω') := by
    intro k hk3 next n
    induction n with
    | zero =>
      intro j b m hj hI
      obtain rfl : j = 2 ^ N := by omega
      refine vl_150_20 ω _ _ _ _ _ _ _ ?_
      rw [e15, sh2 N hN, nI_1 k]
      refine br_t (Int32.le_refl _) (next b m ?_)
      rw [eIV] at hI ⊢
      rcases hI with ⟨_, h2, _, _⟩ | ⟨h1, h2, h3, h4, h5⟩
      · omega
      · refine Or.inr ⟨h1, h2, h3, by omega, fun S hS hP hy => h5 S hS hP ?_⟩
        unfold kyS at hy ⊢
        have := cnl S
        omega
    | succ n ih =>
      intro j b m hj hI
      have bm := bM k j b m hI
      have bj := bV j
      have hal := Al_alw (kd := kd) (H := H) (W := w) (S := j) hN (by omega)
      rw [← eA] at hal
      refine vl_150_20 ω _ _ _ _ _ _ _ ?_
      rw [e15, sh2 N hN, nI_1 j]
      refine br_f (nI_ge (by omega) (by omega)) (t144 ?_)
      rw [on_cn j (by omega)]
      have c7 := cnl j
      refine ⟨fun c => ?_, fun c => ih (j + 1) b m (by omega) (skip k j b m (by omega) hk3 (fun z => c (by rw [z.1])) hI)⟩
      have hcn : cn j = k := (nI_eq (by omega) (by omega)).mp c
      refine t145 hN e15 (by omega) hH (by omega) (fun z => br_f (by decide) ?_) (fun z => br_t rfl (ih (j + 1) b m (by omega) (skip k j b m (by omega) hk3 (fun y => z ((Al_kd e35).mpr (hal.mpr y.2).1)) hI)))
      have hA : Alw kd H A j := hal.mp ⟨(Al_kd e35).mp z, by omega⟩
      have egn : gn (ω.1 35) j w N = gn kd j w N := gn_kd (fun s hs => e35 s (by omega))
      have hg : gn kd j w N < 2 ^ N := gn_lt2 (by omega) hw hk
      have mle := mnd_le N (hm t) (gM kd sk t H) j
      have hm1 := hhm t ht
      refine t146N hp hc (by omega) ht hH ?_
      rw [ix5 hH, nI_clamp (by omega : 5 - H < 2 ^ 31), eu]
      refine ⟨vp_in_nI (by omega) (by decide), t147 hN e15 (by omega) (by omega) ?_⟩
      rw [egn, nI_1 H, ix128', nI_clamp (by omega : 128 * (H + 1) + gn kd j w N < 2 ^ 31), hr _ hg, gn_dif (by omega) hk, nI_J (by omega), jI_mul, jI_add, ← eA]
      have ev : ((mnd N (hm t) (gM kd sk t H) j : Nat) : Int) * u + f (dif A (dif j nb)) = V j := by
        rw [eV]
        rfl
      rw [ev]
      have hcm : (lg_cmp (jI (V j)) (jI m) ≤ 0) ↔ V j ≤ m := jI_cle ⟨by omega, by omega⟩ ⟨by omega, by omega⟩
      refine ⟨vp_in_nI (by omega) (by decide), fun y => br_t y (ih (j + 1) b m (by omega) (keep k j b m (by omega) hk3 hcn (hcm.mp y) hI)), fun y => br_f y (ih (j + 1) j (V j) (by omega) (take k j b m (by omega) hk3 hcn hA ?_ hI))⟩
      by_cases x : m < V j
      · exact x
      · exact absurd (hcm.mpr (by omega)) y
  have k11 : ∀ n k b m, k + n = 3 → IV k 0 b m → me_W 150 11 [some (.ref 29), some (.int (nI t)), some (.int (nI H)), some (.int (nI w)), some (.int (nI b)), some (.long (jI m)), none, some (.int (nI k)), none, none, none] [] ω (fun r ω' => ∃ v : Int32, r = some (.int v) ∧ Q v ω') := by
    intro n
    induction n with
    | zero =>
      intro k b m hk3 hI
      obtain rfl : k = 3 := by omega
      refine vl_150_11 ω _ _ _ _ _ _ (br_t (by decide) ⟨_, rfl, q b ?_⟩)
      rw [eIV] at hI
      rcases hI with ⟨h1, _⟩ | ⟨h1, h2, h3, h4, h5⟩
      · omega
      · refine ⟨h1, h2, fun S hS hP => h5 S hS hP ?_⟩
        have := hP.1
        unfold kyS
        omega
    | succ n ih =>
      intro k b m hk3 hI
      exact vl_150_11 ω _ _ _ _ _ _ (br_f (nI_ge (b := 3) (by omega) (by decide)) (k20 k (by omega) (fun b' m' h' => ih (k + 1) b' m' (by omega) h') (2 ^ N) 0 b m (by omega) hI))
  refine vc_150 ω _ _ _ ?_
  have e1 : (-1 : Int64) = jI (-1) := rfl
  rw [e1]
  refine k11 3 0 0 (-1) rfl ?_
  rw [eIV]
  exact Or.inl ⟨rfl, rfl, rfl, rfl⟩
/-! the plan, as a function -/
def sx (x : Nat → Nat) (h : Nat) : Nat → Nat
  | 0 => 0
  | t + 1 => sx x h t + x (4 * h + t)
theorem sx_4 (x : Nat → Nat) (h : Nat) : sx x h 4 = s4 x h := by
  show 0 + x (4 * h) + x (4 * h + 1) + x (4 * h + 2) + x (4 * h + 3) = _
  unfold s4
  omega
theorem sx_le (x : Nat → Nat) (h : Nat) : ∀ t, t ≤ 4 → sx x h t ≤ s4 x h := by
  intro t ht
  rw [← sx_4]
  have a : sx x h 4 = sx x h 0 + x (4 * h + 0) + x (4 * h + 1) + x (4 * h + 2) + x (4 * h + 3) := rfl
  match t, ht with
  | 0, _ => exact Nat.zero_le _
  | 1, _ =>
    have b : sx x h 1 = sx x h 0 + x (4 * h + 0) := rfl
    omega
  | 2, _ =>
    have b : sx x h 2 = sx x h 0 + x (4 * h + 0) + x (4 * h + 1) := rfl
    omega
  | 3, _ =>
    have b : sx x h 3 = sx x h 0 + x (4 * h + 0) + x (4 * h + 1) + x (4 * h + 2) := rfl
    omega
  | 4, _ => exact Nat.le_refl _
  | n + 5, h5 => omega
theorem plT_bd {N nb : Nat} {kd : Nat → Int32} {sk hm x : Nat → Nat} {u hi : Int} {f : Nat → Int} {h A : Nat} (hu : 0 ≤ u) (hhm : ∀ t, t < 4 → hm t < 100) (hA : A < 2 ^ N) (hb : ∀ B, B < 2 ^ N → 0 ≤ f B ∧ f B ≤ hi) : ∀ t, t ≤ 4 → 0 ≤ plT N nb kd sk hm x u f h t A ∧ plT N nb kd sk hm x u f h t A ≤ (sx x h t : Int) * (hi + 100 * u)
  | 0, _ => ⟨Int.le_refl _, by show (0 : Int) ≤ ((0 : Nat) : Int) * (hi + 100 * u); simp⟩
  | t + 1, ht => by
    obtain ⟨a, b⟩ := plT_bd (N := N) (nb := nb) (kd := kd) (sk := sk) (x := x) (h := h) hu hhm hA hb t (by omega)
    have m := mxA_bd (N := N) (nb := nb) (kd := kd) (sk := sk) (hm := hm) (u := u) (H := h) (t := t) hu (hhm t (by omega)) hA hb
    have p1 : 0 ≤ (x (4 * h + t) : Int) * mxA N nb kd sk hm u f h t A := Int.mul_nonneg (by omega) m.1
    have p2 : (x (4 * h + t) : Int) * mxA N nb kd sk hm u f h t A ≤ (x (4 * h + t) : Int) * (hi + 100 * u) := Int.mul_le_mul_of_nonneg_left m.2 (by omega)
    have e : ((sx x h (t + 1) : Nat) : Int) * (hi + 100 * u) = (sx x h t : Int) * (hi + 100 * u) + (x (4 * h + t) : Int) * (hi + 100 * u) := by
      show (((sx x h t + x (4 * h + t) : Nat)) : Int) * (hi + 100 * u) = _
      rw [Int.natCast_add, Int.add_mul]
    rw [e]
    show 0 ≤ plT N nb kd sk hm x u f h t A + (x (4 * h + t) : Int) * mxA N nb kd sk hm u f h t A ∧ plT N nb kd sk hm x u f h t A + (x (4 * h + t) : Int) * mxA N nb kd sk hm u f h t A ≤ _
    omega
def hiB : Nat → Int
  | 0 => 0
  | n + 1 => 10 * (hiB n + 100 * 10 ^ n)
theorem hiB_le : ∀ n, n ≤ 6 → 0 ≤ hiB n ∧ hiB n ≤ 1000000000 := by decide
theorem ten_le : ∀ n, n ≤ 6 → 0 < (10 : Int) ^ n ∧ (10 : Int) ^ n ≤ 1000000 := by decide
theorem plF_bd {N nb : Nat} {kd : Nat → Int32} {sk hm x : Nat → Nat} (hhm : ∀ t, t < 4 → hm t < 100) (hx : ∀ h, s4 x h ≤ 10) : ∀ n, n ≤ 6 → ∀ A, A < 2 ^ N → 0 ≤ plF N nb kd sk hm x n A ∧ plF N nb kd sk hm x n A ≤ hiB n
  | 0, _, A, _ => ⟨Int.le_refl _, Int.le_refl _⟩
  | n + 1, hn, A, hA => by
    have ih := plF_bd (N := N) (nb := nb) (kd := kd) (sk := sk) hhm hx n (by omega)
    have tn := ten_le n (by omega)
    obtain ⟨a, b⟩ := plT_bd (N := N) (nb := nb) (kd := kd) (sk := sk) (hm := hm) (x := x) (u := 10 ^ n) (h := 5 - n) (by omega) hhm hA ih 4 (Nat.le_refl _)
    obtain ⟨c, d⟩ := ih A hA
    have h4 := hx (5 - n)
    rw [sx_4] at b
    have p1 : 0 ≤ ((10 - s4 x (5 - n) : Nat) : Int) * plF N nb kd sk hm x n A := Int.mul_nonneg (by omega) c
    have p2 : ((10 - s4 x (5 - n) : Nat) : Int) * plF N nb kd sk hm x n A ≤ ((10 - s4 x (5 - n) : Nat) : Int) * (hiB n + 100 * 10 ^ n) := Int.mul_le_mul_of_nonneg_left (by omega) (by omega)
    have e : (s4 x (5 - n) : Int) * (hiB n + 100 * 10 ^ n) + ((10 - s4 x (5 - n) : Nat) : Int) * (hiB n + 100 * 10 ^ n) = 10 * (hiB n + 100 * 10 ^ n) := by
      rw [← Int.add_mul]
      congr 1
      omega
    show 0 ≤ plT N nb kd sk hm x (10 ^ n) (plF N nb kd sk hm x n) (5 - n) 4 A + ((10 - s4 x (5 - n) : Nat) : Int) * plF N nb kd sk hm x n A ∧ plT N nb kd sk hm x (10 ^ n) (plF N nb kd sk hm x n) (5 - n) 4 A + ((10 - s4 x (5 - n) : Nat) : Int) * plF N nb kd sk hm x n A ≤ 10 * (hiB n + 100 * 10 ^ n)
    omega
theorem plT_mn {N nb : Nat} {kd : Nat → Int32} {sk hm x : Nat → Nat} {u : Int} {f : Nat → Int} {h : Nat} (hf : Mnt N f) : ∀ t, Mnt N (plT N nb kd sk hm x u f h t)
  | 0 => fun _ _ _ _ _ => Int.le_refl _
  | t + 1 => by
    intro A B hA hB hAB
    have ih := plT_mn (N := N) (nb := nb) (kd := kd) (sk := sk) (hm := hm) (x := x) (u := u) (h := h) hf t A B hA hB hAB
    have m : mxA N nb kd sk hm u f h t A ≤ mxA N nb kd sk hm u f h t B := mx_mono hf A B hA hB hAB
    have p : (x (4 * h + t) : Int) * mxA N nb kd sk hm u f h t A ≤ (x (4 * h + t) : Int) * mxA N nb kd sk hm u f h t B := Int.mul_le_mul_of_nonneg_left m (by omega)
    show plT N nb kd sk hm x u f h t A + (x (4 * h + t) : Int) * mxA N nb kd sk hm u f h t A ≤ plT N nb kd sk hm x u f h t B + (x (4 * h + t) : Int) * mxA N nb kd sk hm u f h t B
    omega
theorem plF_mn {N nb : Nat} {kd : Nat → Int32} {sk hm x : Nat → Nat} : ∀ n, Mnt N (plF N nb kd sk hm x n)
  | 0 => fun _ _ _ _ _ => Int.le_refl _
  | n + 1 => by
    intro A B hA hB hAB
    have ih := plF_mn (N := N) (nb := nb) (kd := kd) (sk := sk) (hm := hm) (x := x) n
    have a := plT_mn (nb := nb) (kd := kd) (sk := sk) (hm := hm) (x := x) (u := 10 ^ n) (h := 5 - n) ih 4 A B hA hB hAB
    have b := ih A B hA hB hAB
    have p : ((10 - s4 x (5 - n) : Nat) : Int) * plF N nb kd sk hm x n A ≤ ((10 - s4 x (5 - n) : Nat) : Int) * plF N nb kd sk hm x n B := Int.mul_le_mul_of_nonneg_left b (by omega)
    show plT N nb kd sk hm x (10 ^ n) (plF N nb kd sk hm x n) (5 - n) 4 A + ((10 - s4 x (5 - n) : Nat) : Int) * plF N nb kd sk hm x n A ≤ plT N nb kd sk hm x (10 ^ n) (plF N nb kd sk hm x n) (5 - n) 4 B + ((10 - s4 x (5 - n) : Nat) : Int) * plF N nb kd sk hm x n B
    omega
theorem plF_s {N nb : Nat} {kd : Nat → Int32} {sk hm x : Nat → Nat} {h : Nat} (hh : h < 6) (A : Nat) : plF N nb kd sk hm x (6 - h) A = plT N nb kd sk hm x (10 ^ (5 - h)) (plF N nb kd sk hm x (6 - (h + 1))) h 4 A + ((10 - s4 x h : Nat) : Int) * plF N nb kd sk hm x (6 - (h + 1)) A := by
  rw [show 6 - h = (5 - h) + 1 by omega, show 6 - (h + 1) = 5 - h by omega]
  show plT N nb kd sk hm x (10 ^ (5 - h)) (plF N nb kd sk hm x (5 - h)) (5 - (5 - h)) 4 A + ((10 - s4 x (5 - (5 - h)) : Nat) : Int) * plF N nb kd sk hm x (5 - h) A = _
  rw [show 5 - (5 - h) = h by omega]
