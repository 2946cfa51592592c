/-! THE CLASS'S PLAN -/
theorem t109 {ω : Om} {N nb : Nat} {kd : Nat → Int32} {sk hm : Nat → Nat} (hp : HP N nb kd sk hm) (hc : HC N nb kd sk hm ω) {h t : Nat} {f g0 : Nat → Int} {c : Int} (hh : h < 6) (ht : t < 4) (hr : Rw 26 ω (h + 1) N f) (hr0 : Rw 26 ω h N g0) (hb : Bf N f) (hf : Mnt N f) {Q : Om → Prop} (q : ∀ ω', Fr [20, 21, 22, 24] [23, 26] ω ω' → (∀ i, (i < h * 128 ∨ h * 128 + 128 ≤ i) → ω'.2 26 i = ω.2 26 i) → Rw 26 ω' h N (fun A => g0 A + c * mxA N nb kd sk hm (10 ^ (5 - h)) f h t A) → Q ω') : me_CtV 109 [.ref 0, .int (nI h), .int (nI t), .long (jI c)] ω Q := by
  obtain ⟨hN, hnb, hk, hsk, hhm⟩ := id hp
  have h7 := pow7 hN
  have hp2 := p2_pos N
  have tn := ten_le (5 - h) (by omega)
  refine vc_109 ω _ _ _ ?_
  rw [ix5 hh]
  refine t95 (by omega) (t14 hp hc hh ht (fun ω1 hF1 n L hn hG hI => ?_))
  have hF1' : Fr [20, 21, 22, 24] [23, 26] ω ω1 := hF1.sub (by decide) (by decide)
  have e26 : ω1.2 26 = ω.2 26 := hF1.2 26 rfl
  have key : ∀ k j ω', j + k = 2 ^ N → Fr [20, 21, 22, 24] [23, 26] ω ω' → Gf nb (mnd N (hm t) (gM kd sk t h)) ω' n L → (∀ i, (i < h * 128 ∨ h * 128 + 128 ≤ i) → ω'.2 26 i = ω.2 26 i) → (∀ A, A < j → ω'.2 26 (h * 128 + A) = jI (g0 A + c * mxA N nb kd sk hm (10 ^ (5 - h)) f h t A)) → (∀ A, j ≤ A → A < 2 ^ N → ω'.2 26 (h * 128 + A) = jI (g0 A)) → me_W 109 24 [some (.ref 0), some (.int (nI h)), none, some (.long (jI c)), none, some (.long (jI (10 ^ (5 - h)))), none, some (.int (nI j))] [] ω' (fun r ω' => r = none ∧ Q ω') := by
    intro k
    induction k with
    | zero =>
      intro j ω' hj hF hG ho h1 h0
      obtain rfl : j = 2 ^ N := by omega
      exact vl_109_24 ω' _ _ _ _ (t28 hN (by rw [hF.1 11 rfl]; exact hc.1) (br_t (nI_lt (by omega) (by omega)) ⟨rfl, q ω' hF ho h1⟩))
    | succ k ih =>
      intro j ω' hj hF hG ho h1 h0
      have hrj : Rw 26 ω' (h + 1) N f := fun B hB => by rw [ho _ (by omega)]; exact hr B hB
      refine vl_109_24 ω' _ _ _ _ (t28 hN (by rw [hF.1 11 rfl]; exact hc.1) (br_f (nI_nlt (by omega) (by omega)) (br_f (nI_ge (b := 128) (by omega) (by decide)) ?_)))
      rw [nI_1, nI_1]
      refine u16p (u := 10 ^ (5 - h)) (f := f) hp ht (by omega) (by omega) (by omega) (by omega) hn hG hI hrj hb hf (fun p _ => ?_)
      rw [jI_mul]
      refine t60p (by omega) (by omega) ?_
      have er : (ui ω' 20 5 (nI p)).2 26 (h * 128 + j) = jI (g0 j) := h0 j (Nat.le_refl _) (by omega)
      rw [er, jI_add]
      refine ih (j + 1) _ (by omega) (Fr.ul (Fr.ui hF rfl) rfl) hG (fun i hi => ?_) (fun A hA => ?_) (fun A hA hA2 => ?_)
      · rw [ul_n (by omega)]; exact ho i hi
      · by_cases z : A = j
        · subst z; exact ul_s
        · rw [ul_n (by omega)]; exact h1 A (by omega)
      · rw [ul_n (by omega)]; exact h0 A (by omega) hA2
  exact key (2 ^ N) 0 ω1 (by omega) hF1' hG (fun i _ => by rw [e26]) (fun A hA => absurd hA (by omega)) (fun A _ hA => by rw [e26]; exact hr0 A hA)
theorem t108 {ω : Om} {N nb : Nat} {kd : Nat → Int32} {sk hm x : Nat → Nat} (hp : HP N nb kd sk hm) (hc : HC N nb kd sk hm ω) (hx : ∀ k, k < 24 → ω.1 8 k = nI (x k)) (hs : ∀ h, s4 x h ≤ 10) (hz : ∀ A, A < 128 → ω.2 26 (6 * 128 + A) = 0) (hv : ω.1 0 11 = 0 ∨ ∀ h, h < 6 → Rw 26 ω h N (plF N nb kd sk hm x (6 - h))) {Q : Om → Prop} (q : ∀ ω', Fr [0, 20, 21, 22, 24] [23, 26] ω ω' → (∀ A, A < 128 → ω'.2 26 (6 * 128 + A) = 0) → (∀ h, h ≤ 6 → Rw 26 ω' h N (plF N nb kd sk hm x (6 - h))) → Q ω') : me_CtV 108 [.ref 0] ω Q := by
  obtain ⟨hN, hnb, hk, hsk, hhm⟩ := id hp
  have h7 := pow7 hN
  have hp2 := p2_pos N
  have x10 := s4_x hs
  have r6 : ∀ ω' : Om, (∀ A, A < 128 → ω'.2 26 (6 * 128 + A) = 0) → Rw 26 ω' 6 N (plF N nb kd sk hm x (6 - 6)) := fun ω' h B hB => by
    rw [h B (by omega)]
    rfl
  have bd := plF_bd (N := N) (nb := nb) (kd := kd) (sk := sk) hhm hs
  have bf : ∀ n, n ≤ 6 → Bf N (plF N nb kd sk hm x n) := fun n hn B hB => by
    have a := bd n hn B hB
    have b := hiB_le n hn
    omega
  by_cases c0 : ω.1 0 11 = 0
  · -- anew
    have k70 : ∀ h, h < 6 → (∀ ω', Fr [0, 20, 21, 22, 24] [23, 26] ω ω' → (∀ A, A < 128 → ω'.2 26 (6 * 128 + A) = 0) → (∀ h', h ≤ h' → h' ≤ 6 → Rw 26 ω' h' N (plF N nb kd sk hm x (6 - h'))) → me_W 108 10 [some (.ref 0), some (.int (nI h + (-1 : Int32))), none, none, none] [] ω' (fun r ω' => r = none ∧ Q ω')) → ∀ n j ω', j + n = 2 ^ N → Fr [0, 20, 21, 22, 24] [23, 26] ω ω' → (∀ A, A < 128 → ω'.2 26 (6 * 128 + A) = 0) → (∀ h', h + 1 ≤ h' → h' ≤ 6 → Rw 26 ω' h' N (plF N nb kd sk hm x (6 - h'))) → (∀ A, A < j → ω'.2 26 (h * 128 + A) = jI (plF N nb kd sk hm x (6 - h) A)) → (∀ A, j ≤ A → A < 2 ^ N → ω'.2 26 (h * 128 + A) = jI (plT N nb kd sk hm x (10 ^ (5 - h)) (plF N nb kd sk hm x (6 - (h + 1))) h 4 A)) → me_W 108 70 [some (.ref 0), some (.int (nI h)), some (.int (nI (10 - s4 x h))), some (.int (nI j)), none] [] ω' (fun r ω' => r = none ∧ Q ω') := by
      intro h hh next n
      have hsh := hs h
      induction n with
      | zero =>
        intro j ω' hj hF h6 hr h1 h0
        obtain rfl : j = 2 ^ N := by omega
        refine vl_108_70 ω' _ _ _ (t28 hN (by rw [hF.1 11 rfl]; exact hc.1) (br_t (nI_lt (by omega) (by omega)) (next ω' hF h6 (fun h' a b => ?_))))
        by_cases z : h' = h
        · subst z; exact h1
        · exact hr h' (by omega) b
      | succ n ih =>
        intro j ω' hj hF h6 hr h1 h0
        refine vl_108_70 ω' _ _ _ (t28 hN (by rw [hF.1 11 rfl]; exact hc.1) (br_f (nI_nlt (by omega) (by omega)) (br_f (nI_ge (b := 128) (by omega) (by decide)) ?_)))
        rw [nI_1, nI_1]
        refine t58p (by omega) (by omega) ?_
        rw [hr (h + 1) (by omega) (by omega) j (by omega), nI_J (by omega), jI_mul]
        refine t60p (by omega) (by omega) ?_
        rw [h0 j (Nat.le_refl _) (by omega), jI_add, ← plF_s hh]
        refine ih (j + 1) _ (by omega) (Fr.ul hF rfl) (fun A hA => ?_) (fun h' a b B hB => ?_) (fun A hA => ?_) (fun A hA hA2 => ?_)
        · rw [ul_n (by omega)]; exact h6 A hA
        · rw [ul_n (by omega)]; exact hr h' a b B hB
        · by_cases z : A = j
          · subst z; exact ul_s
          · rw [ul_n (by omega)]; exact h1 A (by omega)
        · rw [ul_n (by omega)]; exact h0 A (by omega) hA2
    have k27 : ∀ h, h < 6 → (∀ ω', Fr [0, 20, 21, 22, 24] [23, 26] ω ω' → (∀ A, A < 128 → ω'.2 26 (6 * 128 + A) = 0) → (∀ h', h ≤ h' → h' ≤ 6 → Rw 26 ω' h' N (plF N nb kd sk hm x (6 - h'))) → me_W 108 10 [some (.ref 0), some (.int (nI h + (-1 : Int32))), none, none, none] [] ω' (fun r ω' => r = none ∧ Q ω')) → ∀ n t ω', t + n = 4 → Fr [0, 20, 21, 22, 24] [23, 26] ω ω' → (∀ A, A < 128 → ω'.2 26 (6 * 128 + A) = 0) → (∀ h', h + 1 ≤ h' → h' ≤ 6 → Rw 26 ω' h' N (plF N nb kd sk hm x (6 - h'))) → Rw 26 ω' h N (plT N nb kd sk hm x (10 ^ (5 - h)) (plF N nb kd sk hm x (6 - (h + 1))) h t) → me_W 108 27 [some (.ref 0), some (.int (nI h)), some (.int (nI (10 - sx x h t))), some (.int (nI t)), none] [] ω' (fun r ω' => r = none ∧ Q ω') := by
      intro h hh next n
      have hsh := hs h
      induction n with
      | zero =>
        intro t ω' ht hF h6 hr h0
        obtain rfl : t = 4 := by omega
        refine vl_108_27 ω' _ _ _ (br_t (by decide) ?_)
        rw [sx_4]
        exact k70 h hh next (2 ^ N) 0 ω' (by omega) hF h6 hr (fun A hA => absurd hA (by omega)) (fun A _ hA => h0 A hA)
      | succ n ih =>
        intro t ω' ht hF h6 hr h0
        have xl := x10 (4 * h + t)
        have sl1 := sx_le x h (t + 1) (by omega)
        have es : sx x h (t + 1) = sx x h t + x (4 * h + t) := rfl
        have ep : ∀ A, plT N nb kd sk hm x (10 ^ (5 - h)) (plF N nb kd sk hm x (6 - (h + 1))) h (t + 1) A = plT N nb kd sk hm x (10 ^ (5 - h)) (plF N nb kd sk hm x (6 - (h + 1))) h t A + (x (4 * h + t) : Int) * mxA N nb kd sk hm (10 ^ (5 - h)) (plF N nb kd sk hm x (6 - (h + 1))) h t A := fun _ => rfl
        refine vl_108_27 ω' _ _ _ (br_f (nI_ge (b := 4) (by omega) (by decide)) (t2 (fun a b ha hb ea eb => ?_) (fun z => absurd ⟨vp_in_nI hh (by decide), vp_in_nI (by omega) (by decide)⟩ z)))
        obtain rfl : h = a := (nI_eq (by omega) (by omega)).mp ea
        obtain rfl : t = b := (nI_eq (by omega) (by omega)).mp eb
        rw [hF.1 8 rfl, hx _ (by omega), Nat.mul_comm h 4, nI_1 t]
        refine ⟨fun c => ?_, fun c => ?_⟩
        · have z : x (4 * h + t) = 0 := by
            have := (nI_leI (b := 0) (by omega) (by decide)).mp c
            omega
          have i1 := ih (t + 1) ω' (by omega) hF h6 hr (fun B hB => by
            rw [ep, z, h0 B hB]
            simp)
          rw [es, z, Nat.add_zero] at i1
          exact i1
        · rw [nI_J (by omega), pk_sub (by omega), show 10 - sx x h t - x (4 * h + t) = 10 - sx x h (t + 1) by omega]
          refine t109 (f := plF N nb kd sk hm x (6 - (h + 1))) (g0 := plT N nb kd sk hm x (10 ^ (5 - h)) (plF N nb kd sk hm x (6 - (h + 1))) h t) hp (hc.fr hF ⟨rfl, rfl, rfl, rfl⟩) hh (by omega) (hr (h + 1) (by omega) (by omega)) h0 (bf _ (by omega)) (plF_mn _) (fun ω2 hF2 ho2 hr2 => ?_)
          refine ih (t + 1) ω2 (by omega) (hF.trans (hF2.sub (by decide) (by decide))) (fun A hA => ?_) (fun h' a b B hB => ?_) (fun B hB => ?_)
          · rw [ho2 _ (by omega)]; exact h6 A hA
          · rw [ho2 _ (by omega)]; exact hr h' a b B hB
          · rw [hr2 B hB, ep]
    have k10 : ∀ n k ω', k = n → k ≤ 6 → Fr [0, 20, 21, 22, 24] [23, 26] ω ω' → (∀ A, A < 128 → ω'.2 26 (6 * 128 + A) = 0) → (∀ h', k ≤ h' → h' ≤ 6 → Rw 26 ω' h' N (plF N nb kd sk hm x (6 - h'))) → me_W 108 10 [some (.ref 0), some (.int (nI k + (-1 : Int32))), none, none, none] [] ω' (fun r ω' => r = none ∧ Q ω') := by
      intro n
      induction n with
      | zero =>
        intro k ω' hn hk6 hF h6 hr
        obtain rfl : k = 0 := hn
        exact vl_108_10 ω' _ (br_t (by decide) ⟨Or.inr rfl, rfl, q _ (Fr.ui hF rfl) h6 (fun h a => hr h (by omega) a)⟩)
      | succ n ih =>
        intro k ω' hn hk6 hF h6 hr
        obtain rfl : k = n + 1 := hn
        refine vl_108_10 ω' _ ?_
        rw [pk_m1]
        refine br_f (nI_pos (by omega)) (t61p (by omega) (fun ω2 hF2 z1 z2 => ?_))
        have hF2' : Fr [0, 20, 21, 22, 24] [23, 26] ω ω2 := hF.trans (hF2.sub (by decide) (by decide))
        refine k27 n (by omega) (fun ω3 hF3 h63 hr3 => ih n ω3 rfl (by omega) hF3 h63 hr3) 4 0 ω2 rfl hF2' (fun A hA => ?_) (fun h' a b B hB => ?_) (fun B hB => ?_)
        · rw [z2 _ (by omega)]; exact h6 A hA
        · rw [z2 _ (by omega)]; exact hr h' a b B hB
        · rw [z1 B (by omega)]
          rfl
    refine vc_108 ω (br_t c0 ?_)
    rw [m1_5]
    exact k10 6 6 ω rfl (by omega) (Fr.o _ _ ω) hz (fun h' a b => by
      obtain rfl : h' = 6 := by omega
      exact r6 ω hz)
  · refine vc_108 ω (br_f c0 ⟨rfl, q ω (Fr.o _ _ ω) hz (fun h hh => ?_)⟩)
    by_cases z : h = 6
    · subst z
      exact r6 ω hz
    · exact hv.resolve_left c0 h (by omega)
/-- .. and the states stay alike -/
theorem R.pl {ω ω' : Om} (h : R ω) (hF : Fr [0, 20, 21, 22, 24] [23, 26] ω ω') (hy : ∀ N nb, N ≤ 7 → nb < 2 ^ N → ω.1 11 4 = nI N → ω.1 11 5 = nI nb → RY N nb (ω'.1 0 11) (ω'.2 26) (ω.1 8) (ω.1 12) (ω.1 14) (ω.1 15)) : R ω' := by
  obtain ⟨N, nb, h1, h2, h3, h4, h5, h6, h7, -⟩ := h
  have y := hy N nb h4.1 h4.2.2.2.1 h4.2.1 h4.2.2.2.2.1
  refine ⟨N, nb, ?_, ?_, ?_, ?_, ?_, ?_, ?_, ?_⟩
  · rw [hF.1 1 rfl, hF.1 29 rfl, hF.1 2 rfl, hF.1 30 rfl]; exact h1
  · rw [hF.1 7 rfl, hF.1 29 rfl, hF.1 8 rfl, hF.1 31 rfl]; exact h2
  · rw [hF.1 9 rfl, hF.1 29 rfl, hF.1 10 rfl, hF.1 33 rfl]; exact h3
  · rw [hF.1 11 rfl, hF.1 29 rfl, hF.1 12 rfl, hF.1 35 rfl, hF.1 13 rfl, hF.1 36 rfl, hF.1 14 rfl, hF.1 37 rfl, hF.1 15 rfl, hF.1 38 rfl]; exact h4
  · rw [hF.1 16 rfl, hF.1 29 rfl]; exact h5
  · rw [hF.1 17 rfl, hF.1 29 rfl, hF.1 18 rfl, hF.1 45 rfl, hF.1 19 rfl, hF.1 44 rfl]; exact h6
  · rw [hF.1 29 rfl, hF.1 33 rfl, hF.1 37 rfl, hF.1 38 rfl, hF.1 45 rfl, hF.1 44 rfl]; exact h7
  · rw [hF.1 8 rfl, hF.1 12 rfl, hF.1 14 rfl, hF.1 15 rfl]; exact y
theorem t108R {ω : Om} (hR : R ω) {N nb : Nat} (hp : HP N nb (ω.1 12) (cl (ω.1 14)) (cl (ω.1 15))) (hc : HC N nb (ω.1 12) (cl (ω.1 14)) (cl (ω.1 15)) ω) (hx : ∀ k, k < 24 → ω.1 8 k = nI (clB (ω.1 8) k)) (hs : ∀ h, s4 (clB (ω.1 8)) h ≤ 10) (hY : RY N nb (ω.1 0 11) (ω.2 26) (ω.1 8) (ω.1 12) (ω.1 14) (ω.1 15)) {Q : Om → Prop} (q : ∀ ω', R ω' → Fr [0, 20, 21, 22, 24] [23, 26] ω ω' → (∀ h, h ≤ 6 → Rw 26 ω' h N (plF N nb (ω.1 12) (cl (ω.1 14)) (cl (ω.1 15)) (clB (ω.1 8)) (6 - h))) → Q ω') : me_CtV 108 [.ref 0] ω Q := by
  refine t108 hp hc hx hs hY.1 (hY.2.imp id (fun z h hh => z h hh)) (fun ω' hF h6 hr => q ω' (hR.pl hF (fun N' nb' hN' hnb' eN enb => ?_)) hF hr)
  have hN := hp.1
  have h7 := pow7 hN
  have h7' := pow7 hN'
  have hnb := hp.2.1
  obtain rfl : N = N' := (nI_eq (by omega) (by omega)).mp (hc.1.symm.trans eN)
  obtain rfl : nb = nb' := (nI_eq (by omega) (by omega)).mp (hc.2.1.symm.trans enb)
  exact ⟨h6, Or.inr (fun h hh A hA => hr h (by omega) A hA)⟩
theorem t110 {ω : Om} {N nb : Nat} {kd : Nat → Int32} {sk hm : Nat → Nat} (hp : HP N nb kd sk hm) (hc : HC N nb kd sk hm ω) {h t A : Nat} {f : Nat → Int} (hh : h < 6) (ht : t < 4) (hA : A < 2 ^ N) (hr : Rw 26 ω (h + 1) N f) (hb : Bf N f) (hf : Mnt N f) {Q : Int32 → Om → Prop} (q : ∀ p ω', Fr [20, 21, 22, 24] [23] ω ω' → Opt N kd h A (vA N nb (hm t) (gM kd sk t h) (10 ^ (5 - h)) f A) p → Q (nI p) ω') : me_CtI 110 [.ref 0, .int (nI h), .int (nI t), .int (nI A)] ω Q := by
  have tn := ten_le (5 - h) (by omega)
  refine vc_110 ω _ _ _ (t14 hp hc hh ht (fun ω1 hF1 n L hn hG hI => ?_))
  have hr1 : Rw 26 ω1 (h + 1) N f := hr.fr hF1 rfl
  rw [ix5 hh, nI_1]
  refine t95 (by omega) (u16p (u := 10 ^ (5 - h)) (f := f) hp ht (by omega) hA (by omega) (by omega) hn hG hI hr1 hb hf (fun p hop => ⟨_, rfl, ?_⟩))
  have e : (ui ω1 20 5 (nI p)).1 20 5 = nI p := ui_s
  rw [e]
  exact q p _ (Fr.ui hF1 rfl) hop
