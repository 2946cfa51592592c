/-! WORST, the reference -/
theorem R.bell {ω : Om} (h : R ω) : (∀ k, k < 24 → ω.1 8 k = ω.1 31 k) ∧ ∃ x : Nat → Nat, (∀ k, k < 24 → ω.1 31 k = nI (x k)) ∧ ∀ h, s4 x h ≤ 10 := by
  obtain ⟨N, nb, -, ⟨-, b1, b2⟩, -⟩ := h
  exact ⟨b1, b2⟩
theorem t157 {ω : Om} {N nb : Nat} {kd : Nat → Int32} {sk hm : Nat → Nat} {ch : Nat → Nat → Bool} (hp : HP N nb kd sk hm) (hc : HM N kd sk hm ω) (hch : ∀ h, h < 6 → ∀ t, t < 4 → (¬ ω.1 31 (h * 4 + t) ≤ 0 ↔ ch h t = true)) {H W : Nat} (hH : H ≤ 6) (hW : W < 2 ^ N) (eH : ω.1 29 16 = nI H) (eW : ω.1 29 17 = nI W) {Q : Int32 → Om → Prop} (q : ∀ ω', Fr [41] [] ω ω' → Q (nI (-woF N nb kd sk hm ch (6 - H) (dif (2 ^ N - 1) W)).toNat) ω') : me_CtI 157 [.ref 29] ω Q := by
  obtain ⟨hN, hnb, hk, hsk, hhm⟩ := id hp
  have h7 := pow7 hN
  have hp2 := p2_pos N
  have bd := woF_bd (N := N) (nb := nb) (kd := kd) (sk := sk) (ch := ch) hhm
  -- the sets, for one thing
  have k79 : ∀ (h w t : Nat) (f : Nat → Int), h < 6 → w < 2 ^ N → t < 4 → (∀ B, B < 2 ^ N → -1000 ≤ f B ∧ f B ≤ 0) → ∀ (ω' : Om), HM N kd sk hm ω' → Fr [41] [] ω ω' → Rm ω' (h + 1) N (fun A => -f A) → ∀ y : Int, -2000 ≤ y → y ≤ 0 → (∀ y' : Int, y' = (if ch h t = true then mnZ y (mxA N nb kd sk hm 1 f h t (dif (2 ^ N - 1) w) - hm t) else y) → me_W 157 66 [some (.ref 29), some (.int (nI h)), some (.int (nI w)), some (.int (zI (-y'))), some (.int (nI (t + 1))), none, none, none] [] ω' (fun r ω' => ∃ v : Int32, r = some (.int v) ∧ Q v ω')) → ∀ n j (x : Int), j + n = 2 ^ N → (ch h t = true → x = (if j = 0 then 100000 else (hm t : Int) - mxU (Alw kd h (dif (2 ^ N - 1) w)) (vA N nb (hm t) (gM kd sk t h) 1 f (dif (2 ^ N - 1) w)) j)) → me_W 157 79 [some (.ref 29), some (.int (nI h)), some (.int (nI w)), some (.int (zI (-y))), some (.int (nI t)), some (.int (zI x)), some (.int (nI j)), none] [] ω' (fun r ω' => ∃ v : Int32, r = some (.int v) ∧ Q v ω') := by
    intro h w t f hh hw ht hbf ω' hc' hF hr y y1 y2 next n
    have e15 : ω'.1 29 15 = nI N := hc'.1
    have hdw : dif (2 ^ N - 1) w < 2 ^ N := dif_lt (E_lt N)
    have hct : ¬ ω'.1 31 (4 * h + t) ≤ 0 ↔ ch h t = true := by
      rw [hF.1 31 rfl, Nat.mul_comm]
      exact hch h hh t ht
    have m2 := hhm t ht
    have bx : ∀ i, -1000 ≤ mxU (Alw kd h (dif (2 ^ N - 1) w)) (vA N nb (hm t) (gM kd sk t h) 1 f (dif (2 ^ N - 1) w)) i ∧ mxU (Alw kd h (dif (2 ^ N - 1) w)) (vA N nb (hm t) (gM kd sk t h) 1 f (dif (2 ^ N - 1) w)) i ≤ 100 := by
      intro i
      have g1 := (mxU_ge (P := Alw kd h (dif (2 ^ N - 1) w)) (V := vA N nb (hm t) (gM kd sk t h) 1 f (dif (2 ^ N - 1) w)) i).1
      obtain ⟨S, -, e⟩ := mxU_at (P := Alw kd h (dif (2 ^ N - 1) w)) (V := vA N nb (hm t) (gM kd sk t h) 1 f (dif (2 ^ N - 1) w)) i
      have b0 := hbf _ hdw
      have b1 := hbf (dif (dif (2 ^ N - 1) w) (dif S nb)) (dif_lt hdw)
      have m1 := mnd_le N (hm t) (gM kd sk t h) S
      have ev0 : vA N nb (hm t) (gM kd sk t h) 1 f (dif (2 ^ N - 1) w) S = (mnd N (hm t) (gM kd sk t h) S : Int) * 1 + f (dif (dif (2 ^ N - 1) w) (dif S nb)) := rfl
      rw [vA_0] at g1
      rw [ev0] at e
      omega
    induction n with
    | zero =>
      intro j x hj ex
      obtain rfl : j = 2 ^ N := by omega
      refine vl_157_79 ω' _ _ _ _ _ _ ?_
      rw [e15, sh2 N hN, ix4', nI_clamp (by omega), nI_1 t]
      refine br_t (Int32.le_refl _) ⟨vp_in_nI (by omega) (by decide), fun c => ?_, fun c => ?_⟩
      · exact next y (by rw [if_neg (fun z => (hct.mpr z) c)])
      · have hcc := hct.mp c
        have ex' := ex hcc
        rw [if_neg (by omega)] at ex'
        have b := bx (2 ^ N)
        have em : mxA N nb kd sk hm 1 f h t (dif (2 ^ N - 1) w) = mxU (Alw kd h (dif (2 ^ N - 1) w)) (vA N nb (hm t) (gM kd sk t h) 1 f (dif (2 ^ N - 1) w)) (2 ^ N) := rfl
        have nx := fun y' e => next y' (by rw [if_pos hcc, em]; exact e)
        refine ⟨fun z => nx y ?_, fun z => ?_⟩
        · have := (zI_le (by omega) (by omega) (by omega) (by omega)).mp z
          unfold mnZ
          split <;> omega
        · have : -y < x := by
            by_cases u : -y < x
            · exact u
            · exact absurd ((zI_le (by omega) (by omega) (by omega) (by omega)).mpr (by omega)) z
          have := nx (-x) (by unfold mnZ; split <;> omega)
          rw [show - -x = x by omega] at this
          exact this
    | succ n ih =>
      intro j x hj ex
      refine vl_157_79 ω' _ _ _ _ _ _ ?_
      rw [e15, sh2 N hN, ix4', nI_clamp (by omega), nI_1 j]
      refine br_f (nI_ge (by omega) (by omega)) ⟨vp_in_nI (by omega) (by decide), fun c => ih (j + 1) x (by omega) (fun z => absurd c (hct.mpr z)), fun c => ?_⟩
      have hcc := hct.mp c
      have ex' := ex hcc
      refine t144 ?_
      rw [on_cn j (by omega)]
      have j0 : j = 0 → Alw kd h (dif (2 ^ N - 1) w) j := fun z => by rw [z]; exact Alw_0 _ _ _
      have skip : ¬ Alw kd h (dif (2 ^ N - 1) w) j → me_W 157 79 [some (.ref 29), some (.int (nI h)), some (.int (nI w)), some (.int (zI (-y))), some (.int (nI t)), some (.int (zI x)), some (.int (nI (j + 1))), none] [] ω' (fun r ω' => ∃ v : Int32, r = some (.int v) ∧ Q v ω') := fun z => ih (j + 1) x (by omega) (fun _ => by
        rw [if_neg (by omega), mxU_out (fun y => z y.1)]
        rw [if_neg (fun y => z (j0 y))] at ex'
        exact ex')
      have hal := Al_alw (kd := kd) (H := h) (W := w) (S := j) hN (by omega)
      refine ⟨fun c3 => skip (fun z => ?_), fun c3 => ?_⟩
      · have := (nI_leI (a := 3) (by decide) (by have := cn_le j; omega)).mp c3
        have := z.1
        omega
      · have c3' : cn j ≤ 2 := by
          by_cases y : cn j ≤ 2
          · exact y
          · exact absurd (nI_le (a := 3) (by omega) (by have := cn_le j; omega)) c3
        have e35 : ∀ s, s < 7 → ω'.1 35 s = kd s := hc'.2.1
        have hal2 : Al (ω'.1 35) j w h ↔ Al kd j w h := by
          unfold Al
          constructor
          · intro z s hs hb
            rw [← e35 s hs]; exact z s hs hb
          · intro z s hs hb
            rw [e35 s hs]; exact z s hs hb
        refine t145 hN e15 (by omega) hh (by omega) (fun z => br_f (by decide) ⟨vp_in_nI ht (by decide), ?_⟩) (fun z => br_t rfl (skip (fun y => z (hal2.mpr (hal.mpr y).1))))
        have hA : Alw kd h (dif (2 ^ N - 1) w) j := hal.mp ⟨hal2.mp z, c3'⟩
        have egn : gn (ω'.1 35) j w N = gn kd j w N := by
          refine Nat.eq_of_testBit_eq (fun i => ?_)
          rw [gn_bit, gn_bit]
          by_cases y : i < N
          · rw [e35 i (by omega)]
          · simp [y]
        have hg : gn kd j w N < 2 ^ N := gn_lt2 (by omega) hw hk
        refine t146N hp hc' (by omega) ht hh (t147 hN e15 (by omega) (by omega) ?_)
        have hrg : ω'.1 41 (128 * (h + 1) + gn kd j w N) = zI (-f (dif (2 ^ N - 1) (gn kd j w N))) := hr _ hg
        rw [egn, nI_1 h, ix128', nI_clamp (by omega : 128 * (h + 1) + gn kd j w N < 2 ^ 31), hrg, gn_dif (by omega) hk, nI_clamp (by omega : t < 2 ^ 31), hc'.2.2.2 t ht, zI_n (hm t), zI_n (mnd N (hm t) (gM kd sk t h) j), zI_sub, zI_add]
        have ev : (hm t : Int) - ((mnd N (hm t) (gM kd sk t h) j : Nat) : Int) + -f (dif (dif (2 ^ N - 1) w) (dif j nb)) = (hm t : Int) - vA N nb (hm t) (gM kd sk t h) 1 f (dif (2 ^ N - 1) w) j := by
          unfold vA
          omega
        rw [ev]
        have bj := bx j
        have bv : -1000 ≤ vA N nb (hm t) (gM kd sk t h) 1 f (dif (2 ^ N - 1) w) j ∧ vA N nb (hm t) (gM kd sk t h) 1 f (dif (2 ^ N - 1) w) j ≤ 100 := by
          have b1 := hbf (dif (dif (2 ^ N - 1) w) (dif j nb)) (dif_lt hdw)
          have m1 := mnd_le N (hm t) (gM kd sk t h) j
          omega
        have xb : -1000 ≤ x ∧ x ≤ 100000 := by
          rw [ex']
          split <;> omega
        refine ⟨vp_in_nI (by omega) (by decide), fun y => ih (j + 1) x (by omega) (fun _ => ?_), fun y => ih (j + 1) _ (by omega) (fun _ => ?_)⟩
        · have := (zI_le (by omega) (by omega) (by omega) (by omega)).mp y
          rw [if_neg (by omega)]
          by_cases z0 : j = 0
          · rw [if_pos z0] at ex'
            omega
          · rw [if_neg z0] at ex'
            rw [mxU_out (fun y => by omega)]
            exact ex'
        · have : (hm t : Int) - vA N nb (hm t) (gM kd sk t h) 1 f (dif (2 ^ N - 1) w) j < x := by
            by_cases u : (hm t : Int) - vA N nb (hm t) (gM kd sk t h) 1 f (dif (2 ^ N - 1) w) j < x
            · exact u
            · exact absurd ((zI_le (by omega) (by omega) (by omega) (by omega)).mpr (by omega)) y
          rw [if_neg (by omega)]
          by_cases z0 : j = 0
          · subst z0
            rw [mxU_out (fun y => by
              have : mxU (Alw kd h (dif (2 ^ N - 1) w)) (vA N nb (hm t) (gM kd sk t h) 1 f (dif (2 ^ N - 1) w)) 0 = vA N nb (hm t) (gM kd sk t h) 1 f (dif (2 ^ N - 1) w) 0 := rfl
              omega)]
            rfl
          · rw [if_neg z0] at ex'
            rw [mxU_in ⟨hA, by omega⟩]
  -- the things
  have k66 : ∀ (h w : Nat) (f : Nat → Int), h < 6 → w < 2 ^ N → (∀ B, B < 2 ^ N → -600 ≤ f B ∧ f B ≤ 0) → ∀ (ω' : Om), HM N kd sk hm ω' → Fr [41] [] ω ω' → Rm ω' (h + 1) N (fun A => -f A) → (me_W 157 38 [some (.ref 29), some (.int (nI h)), some (.int (nI (w + 1))), none, none, none, none, none] [] (ui ω' 41 (128 * h + w) (zI (-woT N nb kd sk hm f ch h 4 (dif (2 ^ N - 1) w)))) (fun r ω' => ∃ v : Int32, r = some (.int v) ∧ Q v ω')) → ∀ n t, t + n = 4 → me_W 157 66 [some (.ref 29), some (.int (nI h)), some (.int (nI w)), some (.int (zI (-woT N nb kd sk hm f ch h t (dif (2 ^ N - 1) w)))), some (.int (nI t)), none, none, none] [] ω' (fun r ω' => ∃ v : Int32, r = some (.int v) ∧ Q v ω') := by
    intro h w f hh hw hbf ω' hc' hF hr next n
    have hdw : dif (2 ^ N - 1) w < 2 ^ N := dif_lt (E_lt N)
    induction n with
    | zero =>
      intro t ht
      obtain rfl : t = 4 := by omega
      refine vl_157_66 ω' _ _ _ _ ?_
      rw [ix128', nI_clamp (by omega), nI_1 w]
      exact br_t (by decide) ⟨vp_in_nI (by omega) (by decide), next⟩
    | succ n ih =>
      intro t ht
      have b := woT_bd (N := N) (nb := nb) (kd := kd) (sk := sk) (ch := ch) (h := h) hhm hbf t (by omega) _ hdw
      refine vl_157_66 ω' _ _ _ _ (br_f (nI_ge (b := 4) (by omega) (by decide)) ?_)
      refine k79 h w t f hh hw (by omega) (fun B hB => by have := hbf B hB; omega) ω' hc' hF hr _ (by omega) (by omega) (fun y' ey => ?_) (2 ^ N) 0 100000 (by omega) (fun _ => by rw [if_pos rfl])
      have e : woT N nb kd sk hm f ch h (t + 1) (dif (2 ^ N - 1) w) = y' := ey.symm
      have := ih (t + 1) (by omega)
      rw [e] at this
      exact this
  -- a row
  have k38 : ∀ (h : Nat) (f : Nat → Int), h < 6 → (∀ B, B < 2 ^ N → -600 ≤ f B ∧ f B ≤ 0) → (∀ ω', Fr [41] [] ω ω' → Rm ω' h N (fun A => -woT N nb kd sk hm f ch h 4 A) → me_W 157 28 [some (.ref 29), some (.int (nI h + (-1 : Int32))), none, none, none, none, none, none] [] ω' (fun r ω' => ∃ v : Int32, r = some (.int v) ∧ Q v ω')) → ∀ n w ω', w + n = 2 ^ N → Fr [41] [] ω ω' → Rm ω' (h + 1) N (fun A => -f A) → (∀ V, V < w → ω'.1 41 (128 * h + V) = zI (-woT N nb kd sk hm f ch h 4 (dif (2 ^ N - 1) V))) → me_W 157 38 [some (.ref 29), some (.int (nI h)), some (.int (nI w)), none, none, none, none, none] [] ω' (fun r ω' => ∃ v : Int32, r = some (.int v) ∧ Q v ω') := by
    intro h f hh hbf next n
    induction n with
    | zero =>
      intro w ω' hw hF hr h1
      obtain rfl : w = 2 ^ N := by omega
      have e15 : ω'.1 29 15 = nI N := by rw [hF.1 29 rfl]; exact hc.1
      refine vl_157_38 ω' _ _ ?_
      rw [e15, sh2 N hN]
      exact br_t (Int32.le_refl _) (next ω' hF h1)
    | succ n ih =>
      intro w ω' hw hF hr h1
      have hc' : HM N kd sk hm ω' := hc.fr hF ⟨rfl, rfl, rfl, rfl⟩
      refine vl_157_38 ω' _ _ ?_
      rw [hc'.1, sh2 N hN, nI_1 h, ix128', nI_clamp (by omega), hr w (by omega)]
      refine br_f (nI_ge (by omega) (by omega)) ⟨vp_in_nI (by omega) (by decide), ?_⟩
      refine k66 h w f hh (by omega) hbf ω' hc' hF hr ?_ 4 0 rfl
      refine ih (w + 1) _ (by omega) (Fr.ui hF rfl) (fun V hV => ?_) (fun V hV => ?_)
      · rw [ui_n (by omega)]; exact hr V hV
      · by_cases z : V = w
        · subst z; exact ui_s
        · rw [ui_n (by omega)]; exact h1 V (by omega)
  have k28 : ∀ n k ω', H + n = k → k ≤ 6 → Fr [41] [] ω ω' → Rm ω' k N (fun A => -woF N nb kd sk hm ch (6 - k) A) → me_W 157 28 [some (.ref 29), some (.int (nI k + (-1 : Int32))), none, none, none, none, none, none] [] ω' (fun r ω' => ∃ v : Int32, r = some (.int v) ∧ Q v ω') := by
    intro n
    induction n with
    | zero =>
      intro k ω' hn hk6 hF hr
      obtain rfl : H = k := by omega
      have e1 : ω'.1 29 16 = nI H := by rw [hF.1 29 rfl]; exact eH
      have e2 : ω'.1 29 17 = nI W := by rw [hF.1 29 rfl]; exact eW
      have hd : dif (2 ^ N - 1) W < 2 ^ N := dif_lt (E_lt N)
      have b := bd (6 - H) _ hd
      have hrW : ω'.1 41 (128 * H + W) = zI (-woF N nb kd sk hm ch (6 - H) (dif (2 ^ N - 1) W)) := hr W hW
      refine vl_157_28 ω' _ ?_
      rw [e1, e2, ix128', nI_clamp (by omega), hrW]
      refine br_t (m1_lt H (by omega)) ⟨vp_in_nI (by omega) (by decide), _, rfl, ?_⟩
      have ez : -woF N nb kd sk hm ch (6 - H) (dif (2 ^ N - 1) W) = ((-woF N nb kd sk hm ch (6 - H) (dif (2 ^ N - 1) W)).toNat : Int) := by omega
      rw [ez, ← zI_n]
      exact q ω' hF
    | succ n ih =>
      intro k ω' hn hk6 hF hr
      obtain ⟨h, rfl⟩ : ∃ h, k = h + 1 := ⟨k - 1, by omega⟩
      have e1 : ω'.1 29 16 = nI H := by rw [hF.1 29 rfl]; exact eH
      have ek : ∀ A, woF N nb kd sk hm ch (6 - h) A = woT N nb kd sk hm (woF N nb kd sk hm ch (6 - (h + 1))) ch h 4 A := by
        intro A
        rw [show 6 - h = (6 - (h + 1)) + 1 by omega]
        show woT N nb kd sk hm (woF N nb kd sk hm ch (6 - (h + 1))) ch (5 - (6 - (h + 1))) 4 A = _
        rw [show 5 - (6 - (h + 1)) = h by omega]
      refine vl_157_28 ω' _ ?_
      rw [e1, pk_m1]
      refine br_f (nI_nlt (by omega) (by omega)) ?_
      refine k38 h (woF N nb kd sk hm ch (6 - (h + 1))) (by omega) (fun B hB => by have := bd (6 - (h + 1)) B hB; omega) (fun ω2 hF2 hr2 => ih h ω2 (by omega) (by omega) hF2 (fun V hV => ?_)) (2 ^ N) 0 ω' (by omega) hF hr (fun V hV => absurd hV (by omega))
      show ω2.1 41 (128 * h + V) = zI (-woF N nb kd sk hm ch (6 - h) (dif (2 ^ N - 1) V))
      rw [ek]
      exact hr2 V hV
  have k2 : ∀ n j ω', j + n = 128 → Fr [41] [] ω ω' → (∀ V, V < j → ω'.1 41 (128 * 6 + V) = 0) → me_W 157 2 [some (.ref 29), some (.int (nI j)), none, none, none, none, none, none] [] ω' (fun r ω' => ∃ v : Int32, r = some (.int v) ∧ Q v ω') := by
    intro n
    induction n with
    | zero =>
      intro j ω' hj hF h1
      obtain rfl : j = 128 := by omega
      refine vl_157_2 ω' _ (br_t (by decide) ?_)
      rw [m1_5]
      refine k28 (6 - H) 6 ω' (by omega) (by omega) hF (fun V hV => ?_)
      rw [h1 V (by omega)]
      rfl
    | succ n ih =>
      intro j ω' hj hF h1
      refine vl_157_2 ω' _ (br_f (nI_ge (b := 128) (by omega) (by decide)) ?_)
      rw [ix768, nI_clamp (by omega), nI_1]
      refine ⟨vp_in_nI (by omega) (by decide), ih (j + 1) _ (by omega) (Fr.ui hF rfl) (fun V hV => ?_)⟩
      by_cases z : V = j
      · subst z; exact ui_s
      · rw [ui_n (by omega)]; exact h1 V (by omega)
  exact vc_157 ω (k2 128 0 ω (by omega) (Fr.o _ _ ω) (fun V hV => absurd hV (by omega)))
theorem scC {ω ω1 : Om} {B : List Nat} (h : Fr [20, 21, 22, 24] B ω ω1) (hB : B.contains 26 = false := by rfl) : Sc ω ω1 := h.sc (hB := hB) (by
  intro i hi k
  simp only [List.mem_cons, List.not_mem_nil, or_false] at hi
  rcases hi with rfl | rfl | rfl | rfl <;> rfl)
theorem scM {ω ω1 : Om} {B : List Nat} (h : Fr [41] B ω ω1) (hB : B.contains 26 = false := by rfl) : Sc ω ω1 := h.sc (hB := hB) (by
  intro i hi k
  simp only [List.mem_cons, List.not_mem_nil, or_false] at hi
  subst hi
  rfl)
theorem q_79a {ω : Om} (hR : R ω) : Pr 79 [.ref 0] 158 [.ref 29] ω := by
  intro Q hQ
  obtain ⟨N, nb, H, W, kd, sk, hm, hp, hc, hM, hH, hW, hWn, e1, e2, e3, e4⟩ := hR.house
  obtain ⟨b1, -⟩ := hR.bell
  refine t79 (ch := fun h t => decide (¬ ω.1 31 (h * 4 + t) ≤ 0)) hp hc (fun h hh t ht => ?_) hH hW e1 e3 (fun ω1 hF1 => ?_)
  · rw [b1 _ (by omega)]
    exact decide_eq_true_iff.symm
  · have e2' : ω1.1 29 16 = nI H := by rw [hF1.1 29 rfl]; exact e2
    have e4' : ω1.1 29 17 = nI W := by rw [hF1.1 29 rfl]; exact e4
    refine vc_158 ω1 (t157 (ch := fun h t => decide (¬ ω.1 31 (h * 4 + t) ≤ 0)) hp (hM.fr hF1 ⟨rfl, rfl, rfl, rfl⟩) (fun h hh t ht => ?_) hH hW e2' e4' (fun ω2 hF2 => ⟨_, rfl, hQ _ _ ((hR.sc (scC hF1)).sc (scM hF2))⟩))
    rw [hF1.1 31 rfl]
    exact decide_eq_true_iff.symm
