/-! BEST, WHOM, WORTH: both -/
theorem scP {ω ω1 : Om} {B : List Nat} (h : Fr [20, 21, 22, 24] B ω ω1) (hB : B.contains 26 = false := by rfl) : Sc ω ω1 := scC h hB
theorem ten_n : ∀ k, k < 7 → ((10 : Int) ^ k = ((10 ^ k : Nat) : Int)) ∧ 0 < 10 ^ k ∧ 10 ^ k < 2 ^ 40 := by decide
theorem pl_n {N nb : Nat} {kd : Nat → Int32} {sk hm x : Nat → Nat} (hhm : ∀ t, t < 4 → hm t < 100) (hx : ∀ h, s4 x h ≤ 10) {n A : Nat} (hn : n ≤ 6) (hA : A < 2 ^ N) : plF N nb kd sk hm x n A = ((plF N nb kd sk hm x n A).toNat : Int) ∧ (plF N nb kd sk hm x n A).toNat < 2 ^ 40 ∧ 0 ≤ plF N nb kd sk hm x n A ∧ plF N nb kd sk hm x n A ≤ 1000000000 := by
  have a := plF_bd (N := N) (nb := nb) (kd := kd) (sk := sk) hhm hx n hn A hA
  have b := hiB_le n hn
  omega
theorem t77 {ω : Om} (hR : R ω) {N nb H W : Nat} (hp : HP N nb (ω.1 12) (cl (ω.1 14)) (cl (ω.1 15))) (hc : HC N nb (ω.1 12) (cl (ω.1 14)) (cl (ω.1 15)) ω) (hH : H ≤ 6) (hW : W < 2 ^ N) (e1 : ω.1 16 0 = nI H) (e3 : ω.1 16 1 = nI W) (hx : ∀ k, k < 24 → ω.1 8 k = nI (clB (ω.1 8) k)) (hs : ∀ h, s4 (clB (ω.1 8)) h ≤ 10) (hY : RY N nb (ω.1 0 11) (ω.2 26) (ω.1 8) (ω.1 12) (ω.1 14) (ω.1 15)) {p : Int32} (hpp : p = 0 ∨ p = 1) {Q : Int64 → Om → Prop} (q : ∀ ω', R ω' → Fr [0, 20, 21, 22, 24] [23, 26] ω ω' → Q (jI (frN (plF N nb (ω.1 12) (cl (ω.1 14)) (cl (ω.1 15)) (clB (ω.1 8)) (6 - H) (dif (2 ^ N - 1) W)).toNat (10 ^ (6 - H)) p : Int)) ω') : me_CtJ 77 [.ref 0, .int p] ω Q := by
  obtain ⟨hN, hnb, hk, hsk, hhm⟩ := id hp
  have h7 := pow7 hN
  have hd : dif (2 ^ N - 1) W < 2 ^ N := dif_lt (E_lt N)
  refine vc_77 ω p (t94 (fun _ => br_f (by decide) (t108R hR hp hc hx hs hY (fun ω1 hR1 hF1 hr1 => ?_))) (fun z => absurd hpp z))
  have e1' : ω1.1 16 0 = nI H := by rw [hF1.1 16 rfl]; exact e1
  have e3' : ω1.1 16 1 = nI W := by rw [hF1.1 16 rfl]; exact e3
  have e4' : ω1.1 11 4 = nI N := by rw [hF1.1 11 rfl]; exact hc.1
  have pn := pl_n (nb := nb) (kd := ω.1 12) (sk := cl (ω.1 14)) hhm hs (n := 6 - H) (by omega) hd
  have tk := ten_n (6 - H) (by omega)
  refine t104 hN e4' e3' hW ?_
  rw [e1']
  refine t58p hH (by omega) ?_
  rw [hr1 H hH _ hd, e1', show (6 : Int32) = nI 6 from rfl, pk_sub hH]
  refine t95 (by omega) ?_
  rw [pn.1, tk.1]
  exact t102 pn.2.1 tk.2.1 tk.2.2 ⟨_, rfl, q ω1 hR1 hF1⟩
theorem q_77a {ω : Om} (hR : R ω) (a : Int32) : PrL 77 [.ref 0, .int a] 155 [.ref 29, .int a] ω := by
  intro Q hQ
  obtain ⟨N, nb, H, W, hp, hc, hM, hH, hW, hWn, e1, e2, e3, e4, hx, hxm, hs, hY⟩ := hR.hs
  obtain ⟨hN, hnb, hk, hsk, hhm⟩ := id hp
  have h7 := pow7 hN
  have hd : dif (2 ^ N - 1) W < 2 ^ N := dif_lt (E_lt N)
  by_cases hpp : a = 0 ∨ a = 1
  · refine t77 hR hp hc hH hW e1 e3 hx hs hY hpp (fun ω1 hR1 hF1 => ?_)
    have hM1 : HM N (ω.1 12) (cl (ω.1 14)) (cl (ω.1 15)) ω1 := hM.fr hF1 ⟨rfl, rfl, rfl, rfl⟩
    refine vc_155 ω1 a (t153 (fun _ => br_f (by decide) (vc_154 ω1 a (t151 (x := clB (ω.1 8)) hp hM1 (by rw [hF1.1 31 rfl]; exact hxm) hs (fun ω2 hF2 hpw hr2 => ?_)))) (fun z => absurd hpp z))
    have e2' : ω2.1 29 16 = nI H := by rw [hF2.1 29 rfl, hF1.1 29 rfl]; exact e2
    have e4' : ω2.1 29 17 = nI W := by rw [hF2.1 29 rfl, hF1.1 29 rfl]; exact e4
    have pn := pl_n (nb := nb) (kd := ω.1 12) (sk := cl (ω.1 14)) hhm hs (n := 6 - H) (by omega) hd
    have tk := ten_n (6 - H) (by omega)
    rw [e2', e4', ix128', nI_clamp (by omega : 128 * H + W < 2 ^ 31), hr2 H hH W hW, show (6 : Int32) = nI 6 from rfl, pk_sub hH, nI_clamp (by omega : 6 - H < 2 ^ 31), hpw _ (by omega), pn.1, tk.1]
    exact ⟨vp_in_nI (by omega) (by decide), vp_in_nI (by omega) (by decide), t152 pn.2.1 tk.2.1 tk.2.2 ⟨_, rfl, _, rfl, hQ _ _ (hR1.sc (scV hF2))⟩⟩
  · exact vc_77 ω a (t94 (fun z => absurd z hpp) (fun _ => br_t rfl ⟨_, rfl, vc_155 ω a (t153 (fun z => absurd z hpp) (fun _ => br_t rfl ⟨_, rfl, hQ _ _ hR⟩))⟩))
theorem q_78a {ω : Om} (hR : R ω) (a : Int32) : Pr 78 [.ref 0, .int a] 156 [.ref 29, .int a] ω := by
  intro Q hQ
  obtain ⟨N, nb, H, W, hp, hc, hM, hH, hW, hWn, e1, e2, e3, e4, hx, hxm, hs, hY⟩ := hR.hs
  obtain ⟨hN, hnb, hk, hsk, hhm⟩ := id hp
  have h7 := pow7 hN
  have hd : dif (2 ^ N - 1) W < 2 ^ N := dif_lt (E_lt N)
  have bf : ∀ n, n ≤ 6 → Bf N (plF N nb (ω.1 12) (cl (ω.1 14)) (cl (ω.1 15)) (clB (ω.1 8)) n) := fun n hn B hB => by
    have := pl_n (nb := nb) (kd := ω.1 12) (sk := cl (ω.1 14)) hhm hs hn hB
    omega
  by_cases v : vp_in a 4
  · by_cases h6 : H = 6
    · exact vc_78 ω a (t92 (fun _ => br_f (by decide) (br_f (by rw [e1, h6]; decide) ⟨_, rfl, vc_156 ω a (t123n 4 (by decide) (by decide) (fun _ => br_f (by decide) (br_t (by rw [e2, h6]; rfl) ⟨_, rfl, hQ _ _ hR⟩)) (fun z => absurd v z))⟩)) (fun z => absurd v z))
    · obtain ⟨t, ht, rfl⟩ := vp_in_of v (by decide)
      refine vc_78 ω _ (t92 (fun _ => br_f (by decide) (br_t (by rw [e1]; exact nI_lt (b := 6) (by omega) (by decide)) (t108R hR hp hc hx hs hY (fun ω1 hR1 hF1 hr1 => ?_)))) (fun z => absurd v z))
      have e1' : ω1.1 16 0 = nI H := by rw [hF1.1 16 rfl]; exact e1
      have e3' : ω1.1 16 1 = nI W := by rw [hF1.1 16 rfl]; exact e3
      have hc1 : HC N nb (ω.1 12) (cl (ω.1 14)) (cl (ω.1 15)) ω1 := hc.fr hF1 ⟨rfl, rfl, rfl, rfl⟩
      refine t104 hN hc1.1 e3' hW ?_
      rw [e1']
      refine t110 hp hc1 (by omega) ht hd (hr1 (H + 1) (by omega)) (bf _ (by omega)) (plF_mn _) (fun p ω2 hF2 hop => ⟨_, rfl, ?_⟩)
      have hR2 : R ω2 := hR1.sc (scP hF2)
      have hF12 : Fr [0, 20, 21, 22, 24] [23, 26] ω ω2 := hF1.trans (hF2.sub (by decide) (by decide))
      have hM2 : HM N (ω.1 12) (cl (ω.1 14)) (cl (ω.1 15)) ω2 := hM.fr hF12 ⟨rfl, rfl, rfl, rfl⟩
      have e2' : ω2.1 29 16 = nI H := by rw [hF12.1 29 rfl]; exact e2
      refine vc_156 ω2 _ (t123n 4 (by decide) (by decide) (fun _ => br_f (by decide) (br_f (by rw [e2']; exact fun z => h6 ((nI_eq (b := 6) (by omega) (by decide)).mp z)) (t151 (x := clB (ω.1 8)) hp hM2 (by rw [hF12.1 31 rfl]; exact hxm) hs (fun ω3 hF3 hpw hr3 => ?_)))) (fun z => absurd v z))
      have e2'' : ω3.1 29 16 = nI H := by rw [hF3.1 29 rfl]; exact e2'
      have e4'' : ω3.1 29 17 = nI W := by rw [hF3.1 29 rfl, hF12.1 29 rfl]; exact e4
      have tn := ten_le (5 - H) (by omega)
      rw [e2'', e4'']
      refine t150 (u := 10 ^ (5 - H)) hp (hM2.fr hF3 ⟨rfl, rfl, rfl, rfl⟩) (by omega) ht hW (by omega) (by omega) (hpw _ (by omega)) (hr3 (H + 1) (by omega)) (fun B hB => by
        have := pl_n (nb := nb) (kd := ω.1 12) (sk := cl (ω.1 14)) hhm hs (n := 6 - (H + 1)) (by omega) hB
        omega) (fun p' hop' => ⟨_, rfl, ?_⟩)
      rw [hop.uniq hN hop']
      exact hQ _ _ (hR2.sc (scV hF3))
  · exact vc_78 ω a (t92 (fun z => absurd z v) (fun _ => br_t rfl ⟨_, rfl, vc_156 ω a (t123n 4 (by decide) (by decide) (fun z => absurd z v) (fun _ => br_t rfl ⟨_, rfl, hQ _ _ hR⟩))⟩))
/-- worth: what the house has less without one -/
theorem q_82a {ω : Om} (hR : R ω) (a b : Int32) : PrL 82 [.ref 0, .int a, .int b] 166 [.ref 29, .int a, .int b] ω := by
  intro Q hQ
  obtain ⟨N, nb, H, W, hp, hc, hM, hH, hW, hWn, e1, e2, e3, e4, hx, hxm, hs, hY⟩ := hR.hs
  obtain ⟨hN, hnb, hk, hsk, hhm⟩ := id hp
  have h7 := pow7 hN
  have hp2 := p2_pos N
  by_cases v : vp_in a N
  · by_cases hpp : b = 0 ∨ b = 1
    · obtain ⟨s, hsN, rfl⟩ := vp_in_of v (by omega)
      have hs7 := (ky_1 s (by omega)).2.2
      have h2s : 2 ^ s < 2 ^ N := Nat.pow_lt_pow_right (by decide) hsN
      have hd : dif (2 ^ N - 1) (2 ^ s) < 2 ^ N := dif_lt (E_lt N)
      have p1 := pl_n (nb := nb) (kd := ω.1 12) (sk := cl (ω.1 14)) hhm hs (n := 6) (by omega) (E_lt N)
      have p2 := pl_n (nb := nb) (kd := ω.1 12) (sk := cl (ω.1 14)) hhm hs (n := 6) (by omega) hd
      have mono : plF N nb (ω.1 12) (cl (ω.1 14)) (cl (ω.1 15)) (clB (ω.1 8)) 6 (dif (2 ^ N - 1) (2 ^ s)) ≤ plF N nb (ω.1 12) (cl (ω.1 14)) (cl (ω.1 15)) (clB (ω.1 8)) 6 (2 ^ N - 1) := plF_mn 6 _ _ hd (E_lt N) (by
        have := dif_sub (Sb.o (2 ^ N - 1)) (C := 2 ^ s) (D := 0) (fun i hi => by rw [Nat.zero_testBit] at hi; cases hi)
        rw [dif_z] at this
        exact this)
      obtain ⟨d, ed, hd40⟩ : ∃ d : Nat, plF N nb (ω.1 12) (cl (ω.1 14)) (cl (ω.1 15)) (clB (ω.1 8)) 6 (2 ^ N - 1) - plF N nb (ω.1 12) (cl (ω.1 14)) (cl (ω.1 15)) (clB (ω.1 8)) 6 (dif (2 ^ N - 1) (2 ^ s)) = (d : Int) ∧ d < 2 ^ 40 := ⟨(plF N nb (ω.1 12) (cl (ω.1 14)) (cl (ω.1 15)) (clB (ω.1 8)) 6 (2 ^ N - 1) - plF N nb (ω.1 12) (cl (ω.1 14)) (cl (ω.1 15)) (clB (ω.1 8)) 6 (dif (2 ^ N - 1) (2 ^ s))).toNat, by omega, by omega⟩
      have tk := ten_n 6 (by omega)
      refine vc_82 ω _ b (t20 hN hc.1 (fun _ => br_f (by decide) (t94 (fun _ => br_f (by decide) (t108R hR hp hc hx hs hY (fun ω1 hR1 hF1 hr1 => ?_))) (fun z => absurd hpp z))) (fun z => absurd v z))
      have e4' : ω1.1 11 4 = nI N := by rw [hF1.1 11 rfl]; exact hc.1
      refine t28 hN e4' (t58p (h := 0) (by omega) (by omega) ?_)
      have r1 : ω1.2 26 (0 * 128 + (2 ^ N - 1)) = jI (plF N nb (ω.1 12) (cl (ω.1 14)) (cl (ω.1 15)) (clB (ω.1 8)) 6 (2 ^ N - 1)) := hr1 0 (by omega) _ (E_lt N)
      have r2 : ω1.2 26 (0 * 128 + dif (2 ^ N - 1) (2 ^ s)) = jI (plF N nb (ω.1 12) (cl (ω.1 14)) (cl (ω.1 15)) (clB (ω.1 8)) 6 (dif (2 ^ N - 1) (2 ^ s))) := hr1 0 (by omega) _ hd
      rw [r1, sh2 s (by omega), dif_I (by omega) hs7]
      refine t58p (h := 0) (by omega) (by omega) ?_
      rw [r2, jI_sub, ed]
      refine t95 (k := 6) (by omega) ?_
      rw [tk.1]
      refine t102 hd40 tk.2.1 tk.2.2 ⟨_, rfl, ?_⟩
      have hM1 : HM N (ω.1 12) (cl (ω.1 14)) (cl (ω.1 15)) ω1 := hM.fr hF1 ⟨rfl, rfl, rfl, rfl⟩
      refine vc_166 ω1 _ b (t135 hN hM1.1 (fun _ => br_f (by decide) (t153 (fun _ => br_f (by decide) (t151 (x := clB (ω.1 8)) hp hM1 (by rw [hF1.1 31 rfl]; exact hxm) hs (fun ω2 hF2 hpw hr2 => ?_))) (fun z => absurd hpp z))) (fun z => absurd v z))
      have m1 : ω2.2 39 0 = jI (plF N nb (ω.1 12) (cl (ω.1 14)) (cl (ω.1 15)) (clB (ω.1 8)) 6 (2 ^ N - 1)) := by
        have := hr2 0 (by omega) 0 hp2
        rw [dif_z] at this
        exact this
      have m2 : ω2.2 39 (2 ^ s) = jI (plF N nb (ω.1 12) (cl (ω.1 14)) (cl (ω.1 15)) (clB (ω.1 8)) 6 (dif (2 ^ N - 1) (2 ^ s))) := by
        have := hr2 0 (by omega) (2 ^ s) h2s
        rw [Nat.mul_zero, Nat.zero_add] at this
        exact this
      rw [sh2 s (by omega), nI_clamp (by omega), m1, m2, jI_sub, ed, hpw 6 (by omega), tk.1]
      exact ⟨vp_in_nI (n := 0) (by decide) (by decide), vp_in_nI (by omega) (by decide), vp_in_nI (n := 6) (by decide) (by decide), t152 hd40 tk.2.1 tk.2.2 ⟨_, rfl, hQ _ _ (hR1.sc (scV hF2))⟩⟩
    · exact vc_82 ω a b (t20 hN hc.1 (fun _ => br_f (by decide) (t94 (fun z => absurd z hpp) (fun _ => br_t rfl ⟨_, rfl, vc_166 ω a b (t135 hN hM.1 (fun _ => br_f (by decide) (t153 (fun z => absurd z hpp) (fun _ => br_t rfl ⟨_, rfl, hQ _ _ hR⟩))) (fun z => absurd v z))⟩))) (fun z => absurd v z))
  · exact vc_82 ω a b (t20 hN hc.1 (fun z => absurd z v) (fun _ => br_t rfl ⟨_, rfl, vc_166 ω a b (t135 hN hM.1 (fun z => absurd z v) (fun _ => br_t rfl ⟨_, rfl, hQ _ _ hR⟩))⟩))
