/-! BEST, the reference lays its rows -/
theorem s4_x {x : Nat → Nat} (h : ∀ h, s4 x h ≤ 10) (k : Nat) : x k ≤ 10 := s4_le h k
theorem t151 {ω : Om} {N nb : Nat} {kd : Nat → Int32} {sk hm x : Nat → Nat} (hp : HP N nb kd sk hm) (hc : HM N kd sk hm ω) (hx : ∀ k, k < 24 → ω.1 31 k = nI (x k)) (hs : ∀ h, s4 x h ≤ 10) {Q : Om → Prop} (q : ∀ ω', Fr [] [39, 40] ω ω' → (∀ k, k < 7 → ω'.2 40 k = jI (10 ^ k)) → (∀ h, h ≤ 6 → RL 39 ω' h N (plF N nb kd sk hm x (6 - h))) → Q ω') : me_CtV 151 [.ref 29] ω Q := by
  obtain ⟨hN, hnb, hk, hsk, hhm⟩ := id hp
  have h7 := pow7 hN
  have hp2 := p2_pos N
  have bd := plF_bd (N := N) (nb := nb) (kd := kd) (sk := sk) hhm hs
  have bf : ∀ n, n ≤ 6 → ∀ B, B < 2 ^ N → 0 ≤ plF N nb kd sk hm x n B ∧ plF N nb kd sk hm x n B ≤ 1000000000 := fun n hn B hB => by
    have a := bd n hn B hB
    have b := hiB_le n hn
    omega
  have x10 := s4_x hs
  -- one place: over the things
  have k92 : ∀ (h w : Nat), h < 6 → w < 2 ^ N → ∀ (ω' : Om), Fr [] [39, 40] ω ω' → (∀ k, k < 7 → ω'.2 40 k = jI (10 ^ k)) → RL 39 ω' (h + 1) N (plF N nb kd sk hm x (6 - (h + 1))) → (me_W 151 73 [some (.ref 29), some (.int (nI h)), some (.int (nI (w + 1))), none, none, none, none, none, none] [] (ul ω' 39 (128 * h + w) (jI (plF N nb kd sk hm x (6 - h) (dif (2 ^ N - 1) w)))) (fun r ω' => r = none ∧ Q ω')) → ∀ n t, t + n = 4 → me_W 151 92 [some (.ref 29), some (.int (nI h)), some (.int (nI w)), some (.long (jI (plT N nb kd sk hm x (10 ^ (5 - h)) (plF N nb kd sk hm x (6 - (h + 1))) h t (dif (2 ^ N - 1) w)))), none, some (.int (nI (10 - sx x h t))), some (.int (nI t)), none, none] [] ω' (fun r ω' => r = none ∧ Q ω') := by
    intro h w hh hw ω' hF hpw hr next n
    have hc' : HM N kd sk hm ω' := hc.fr hF ⟨rfl, rfl, rfl, rfl⟩
    have hdw : dif (2 ^ N - 1) w < 2 ^ N := dif_lt (E_lt N)
    have hsh := hs h
    induction n with
    | zero =>
      intro t ht
      obtain rfl : t = 4 := by omega
      refine vl_151_92 ω' _ _ _ _ _ ?_
      rw [nI_1 h, nI_1 w, ix128', ix128', nI_clamp (by omega : 128 * (h + 1) + w < 2 ^ 31), nI_clamp (by omega : 128 * h + w < 2 ^ 31), hr w hw, sx_4, nI_J (by omega), jI_mul, jI_add, ← plF_s hh]
      exact br_t (by decide) ⟨vp_in_nI (by omega) (by decide), vp_in_nI (by omega) (by decide), next⟩
    | succ n ih =>
      intro t ht
      have i1 := ih (t + 1) (by omega)
      have sl := sx_le x h t (by omega)
      have sl1 := sx_le x h (t + 1) (by omega)
      have es : sx x h (t + 1) = sx x h t + x (4 * h + t) := rfl
      have ep : plT N nb kd sk hm x (10 ^ (5 - h)) (plF N nb kd sk hm x (6 - (h + 1))) h (t + 1) (dif (2 ^ N - 1) w) = plT N nb kd sk hm x (10 ^ (5 - h)) (plF N nb kd sk hm x (6 - (h + 1))) h t (dif (2 ^ N - 1) w) + (x (4 * h + t) : Int) * mxA N nb kd sk hm (10 ^ (5 - h)) (plF N nb kd sk hm x (6 - (h + 1))) h t (dif (2 ^ N - 1) w) := rfl
      have ex : ω'.1 31 (4 * h + t) = nI (x (4 * h + t)) := by rw [hF.1 31 rfl]; exact hx _ (by omega)
      have xl := x10 (4 * h + t)
      have tn := ten_le (5 - h) (by omega)
      refine vl_151_92 ω' _ _ _ _ _ ?_
      rw [nI_1 t, ix4', nI_clamp (by omega : 4 * h + t < 2 ^ 31), ex]
      refine br_f (nI_ge (b := 4) (by omega) (by decide)) ⟨vp_in_nI (by omega) (by decide), fun c => ?_, fun c => ?_⟩
      · have z : x (4 * h + t) = 0 := by
          have := (nI_leI (b := 0) (by omega) (by decide)).mp c
          omega
        rw [ep, es, z] at i1
        have e0 : ∀ y : Int, y + ((0 : Nat) : Int) * mxA N nb kd sk hm (10 ^ (5 - h)) (plF N nb kd sk hm x (6 - (h + 1))) h t (dif (2 ^ N - 1) w) = y := fun y => by simp
        rw [e0, Nat.add_zero] at i1
        exact i1
      · refine t150 (u := 10 ^ (5 - h)) (f := plF N nb kd sk hm x (6 - (h + 1))) hp hc' hh (by omega) hw (by omega) (by omega) (hpw _ (by omega)) hr (bf _ (by omega)) (fun p hop => ?_)
        have hpN := hop.1
        have em := hop.mx
        have e35 : ∀ s, s < 7 → ω'.1 35 s = kd s := hc'.2.1
        have egn : gn (ω'.1 35) p w N = gn kd p w N := gn_kd (fun s hs => e35 s (by omega))
        have hg : gn kd p w N < 2 ^ N := gn_lt2 hpN hw hk
        have mle := mnd_le N (hm t) (gM kd sk t h) p
        have hm1 := hhm t (by omega)
        refine t146N hp hc' (by omega) (by omega) hh ?_
        rw [ix5 hh, nI_clamp (by omega : 5 - h < 2 ^ 31), hpw _ (by omega)]
        refine ⟨vp_in_nI (by omega) (by decide), t147 hN hc'.1 (by omega) (by omega) ?_⟩
        rw [egn, nI_1 h, ix128', nI_clamp (by omega : 128 * (h + 1) + gn kd p w N < 2 ^ 31), hr _ hg, gn_dif hpN hk, nI_J (by omega : mnd N (hm t) (gM kd sk t h) p < 2 ^ 31), nI_J (by omega : x (4 * h + t) < 2 ^ 31), jI_mul, jI_add, jI_mul, jI_add, pk_sub (by omega)]
        refine ⟨vp_in_nI (by omega) (by decide), ?_⟩
        have ev : ((mnd N (hm t) (gM kd sk t h) p : Nat) : Int) * 10 ^ (5 - h) + plF N nb kd sk hm x (6 - (h + 1)) (dif (dif (2 ^ N - 1) w) (dif p nb)) = mxA N nb kd sk hm (10 ^ (5 - h)) (plF N nb kd sk hm x (6 - (h + 1))) h t (dif (2 ^ N - 1) w) := em.symm
        rw [ev, ← ep, show 10 - sx x h t - x (4 * h + t) = 10 - sx x h (t + 1) by omega]
        exact i1
  -- a row
  have k73 : ∀ (h : Nat), h < 6 → (∀ ω', Fr [] [39, 40] ω ω' → (∀ k, k < 7 → ω'.2 40 k = jI (10 ^ k)) → (∀ h', h ≤ h' → h' ≤ 6 → RL 39 ω' h' N (plF N nb kd sk hm x (6 - h'))) → me_W 151 67 [some (.ref 29), some (.int (nI h + (-1 : Int32))), none, none, none, none, none, none, none] [] ω' (fun r ω' => r = none ∧ Q ω')) → ∀ n w ω', w + n = 2 ^ N → Fr [] [39, 40] ω ω' → (∀ k, k < 7 → ω'.2 40 k = jI (10 ^ k)) → (∀ h', h + 1 ≤ h' → h' ≤ 6 → RL 39 ω' h' N (plF N nb kd sk hm x (6 - h'))) → (∀ V, V < w → ω'.2 39 (128 * h + V) = jI (plF N nb kd sk hm x (6 - h) (dif (2 ^ N - 1) V))) → me_W 151 73 [some (.ref 29), some (.int (nI h)), some (.int (nI w)), none, none, none, none, none, none] [] ω' (fun r ω' => r = none ∧ Q ω') := by
    intro h hh next n
    induction n with
    | zero =>
      intro w ω' hw hF hpw hr h1
      obtain rfl : w = 2 ^ N := by omega
      have e15 : ω'.1 29 15 = nI N := by rw [hF.1 29 rfl]; exact hc.1
      refine vl_151_73 ω' _ _ ?_
      rw [e15, sh2 N hN]
      refine br_t (Int32.le_refl _) (next ω' hF hpw (fun h' a b => ?_))
      by_cases z : h' = h
      · subst z; exact h1
      · exact hr h' (by omega) b
    | succ n ih =>
      intro w ω' hw hF hpw hr h1
      have e15 : ω'.1 29 15 = nI N := by rw [hF.1 29 rfl]; exact hc.1
      refine vl_151_73 ω' _ _ ?_
      rw [e15, sh2 N hN]
      refine br_f (nI_ge (by omega) (by omega)) ?_
      refine k92 h w hh (by omega) ω' hF hpw (hr (h + 1) (by omega) (by omega)) ?_ 4 0 rfl
      refine ih (w + 1) _ (by omega) (Fr.ul hF rfl) (fun k hk7 => hpw k hk7) (fun h' a b V hV => ?_) (fun V hV => ?_)
      · rw [ul_n (by omega)]; exact hr h' a b V hV
      · by_cases z : V = w
        · subst z; exact ul_s
        · rw [ul_n (by omega)]; exact h1 V (by omega)
  have k67 : ∀ n k ω', k = n → k ≤ 6 → Fr [] [39, 40] ω ω' → (∀ k, k < 7 → ω'.2 40 k = jI (10 ^ k)) → (∀ h', k ≤ h' → h' ≤ 6 → RL 39 ω' h' N (plF N nb kd sk hm x (6 - h'))) → me_W 151 67 [some (.ref 29), some (.int (nI k + (-1 : Int32))), none, none, none, none, none, none, none] [] ω' (fun r ω' => r = none ∧ Q ω') := by
    intro n
    induction n with
    | zero =>
      intro k ω' hn hk6 hF hpw hr
      obtain rfl : k = 0 := hn
      exact vl_151_67 ω' _ (br_t (by decide) ⟨rfl, q ω' hF hpw (fun h a => hr h (by omega) a)⟩)
    | succ n ih =>
      intro k ω' hn hk6 hF hpw hr
      obtain rfl : k = n + 1 := hn
      refine vl_151_67 ω' _ ?_
      rw [pk_m1]
      refine br_f (nI_pos (by omega)) ?_
      exact k73 n (by omega) (fun ω2 hF2 hpw2 hr2 => ih n ω2 rfl (by omega) hF2 hpw2 hr2) (2 ^ N) 0 ω' (by omega) hF hpw hr (fun V hV => absurd hV (by omega))
  have k41 : ∀ n j ω', j + n = 128 → Fr [] [39, 40] ω ω' → (∀ k, k < 7 → ω'.2 40 k = jI (10 ^ k)) → (∀ V, V < j → ω'.2 39 (128 * 6 + V) = 0) → me_W 151 41 [some (.ref 29), some (.int (nI j)), none, none, none, none, none, none, none] [] ω' (fun r ω' => r = none ∧ Q ω') := by
    intro n
    induction n with
    | zero =>
      intro j ω' hj hF hpw h1
      obtain rfl : j = 128 := by omega
      refine vl_151_41 ω' _ (br_t (by decide) ?_)
      rw [m1_5]
      refine k67 6 6 ω' rfl (by omega) hF hpw (fun h' a b V hV => ?_)
      obtain rfl : h' = 6 := by omega
      rw [h1 V (by omega)]
      rfl
    | succ n ih =>
      intro j ω' hj hF hpw h1
      refine vl_151_41 ω' _ (br_f (nI_ge (b := 128) (by omega) (by decide)) ?_)
      rw [ix768, nI_clamp (by omega), nI_1]
      refine ⟨vp_in_nI (by omega) (by decide), ih (j + 1) _ (by omega) (Fr.ul hF rfl) (fun k hk7 => hpw k hk7) (fun V hV => ?_)⟩
      by_cases z : V = j
      · subst z; exact ul_s
      · rw [ul_n (by omega)]; exact h1 V (by omega)
  have k9 : ∀ n j ω', j + 1 + n = 7 → Fr [] [39, 40] ω ω' → (∀ k, k < j + 1 → ω'.2 40 k = jI (10 ^ k)) → me_W 151 9 [some (.ref 29), some (.int (nI (j + 1))), none, none, none, none, none, none, none] [] ω' (fun r ω' => r = none ∧ Q ω') := by
    intro n
    induction n with
    | zero =>
      intro j ω' hj hF hpw
      obtain rfl : j = 6 := by omega
      exact vl_151_9 ω' _ (br_t (by decide) (k41 128 0 ω' (by omega) hF hpw (fun V hV => absurd hV (by omega))))
    | succ n ih =>
      intro j ω' hj hF hpw
      refine vl_151_9 ω' _ (br_f (nI_ge (b := 7) (by omega) (by decide)) ?_)
      rw [nI_pred, nI_clamp (by omega : j + 1 < 2 ^ 31), nI_clamp (by omega : j < 2 ^ 31), hpw j (by omega), show (10 : Int64) = jI 10 from rfl, jI_mul, nI_1]
      refine ⟨vp_in_nI (by omega) (by decide), vp_in_nI (by omega) (by decide), ih (j + 1) _ (by omega) (Fr.ul hF rfl) (fun k hk7 => ?_)⟩
      by_cases z : k = j + 1
      · subst z
        rw [ul_s, Int.pow_succ']
      · rw [ul_n z]; exact hpw k (by omega)
  refine vc_151 ω ⟨vp_in_nI (n := 0) (by decide) (by decide), ?_⟩
  refine k9 6 0 _ rfl (Fr.ul (Fr.o _ _ ω) rfl) (fun k hk1 => ?_)
  obtain rfl : k = 0 := by omega
  rw [ul_s]
  rfl
