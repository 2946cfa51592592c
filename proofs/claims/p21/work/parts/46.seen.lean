/-! SEEN: the class's ways, counted -/
noncomputable def cnt (st : Nat → Nat → Nat → Nat) (al : Nat → Nat → Bool) (set : Nat) : Nat → Nat → Int
  | 0, W => dlt set W
  | n + 1, W => sF (al (5 - n)) (fun f => cnt st al set n (st (5 - n) f W)) 5
theorem sF_le {al : Nat → Bool} {G : Nat → Int} {c : Int} (hc : 0 ≤ c) : ∀ n, (∀ f, f < n → 0 ≤ G f ∧ G f ≤ c) → 0 ≤ sF al G n ∧ sF al G n ≤ (n : Int) * c
  | 0, _ => ⟨Int.le_refl _, by show (0 : Int) ≤ ((0 : Nat) : Int) * c; simp⟩
  | n + 1, h => by
    obtain ⟨a, b⟩ := sF_le (al := al) hc n (fun f hf => h f (by omega))
    have d := h n (by omega)
    have e : ((n + 1 : Nat) : Int) * c = (n : Int) * c + c := by rw [Int.natCast_add_one, Int.add_mul, Int.one_mul]
    rw [e]
    by_cases q : al n = true
    · rw [sF_y q]; omega
    · rw [sF_n q]; omega
theorem t119 {ω : Om} {N nb m : Nat} {kd : Nat → Int32} {sk hm ord : Nat → Nat} {tn : Int32} {ch : Nat → Nat → Bool} (hp : HP N nb kd sk hm) (hc : HC N nb kd sk hm ω) (hm7 : m ≤ 7) (ho : ∀ k, k < m → ord k < N) (hr : RC m ord tn ω) (hch : ∀ h, h < 6 → ∀ t, t < 4 → (¬ ω.1 8 (h * 4 + t) ≤ 0 ↔ ch h t = true)) {set : Nat} (hset : set < 128) {fh fg : Int32} {al : Nat → Nat → Bool} (hal : ∀ h, h < 6 → ∀ f, f < 5 → (al h f = true ↔ (((nI h = fh → fg = -1 ∨ fg = nI f)) ∧ (f = 0 ∨ ch h (f - 1) = true)))) {Q : Int64 → Om → Prop} (q : ∀ ω', Fr [] [28] ω ω' → 0 ≤ cnt (stW nb m kd sk ord tn) al set 6 0 → cnt (stW nb m kd sk ord tn) al set 6 0 ≤ 15625 → Q (jI (cnt (stW nb m kd sk ord tn) al set 6 0)) ω') : me_CtJ 119 [.ref 0, .int (nI set), .int fh, .int fg] ω Q := by
  obtain ⟨hN, hnb, hk, hsk, hhm⟩ := id hp
  have h7 := pow7 hN
  obtain ⟨C, eC⟩ : ∃ C, C = cnt (stW nb m kd sk ord tn) al set := ⟨_, rfl⟩
  rw [← eC] at q
  have eCs : ∀ h, h < 6 → ∀ W, C (6 - h) W = sF (al h) (fun f => C (6 - (h + 1)) (stW nb m kd sk ord tn h f W)) 5 := by
    intro h hh W
    rw [eC, show 6 - h = (6 - (h + 1)) + 1 by omega]
    show sF (al (5 - (6 - (h + 1)))) (fun f => cnt (stW nb m kd sk ord tn) al set (6 - (h + 1)) (stW nb m kd sk ord tn (5 - (6 - (h + 1))) f W)) 5 = _
    rw [show 5 - (6 - (h + 1)) = h by omega]
  have b5 : ∀ h, h ≤ 6 → (5 : Int) ^ h ≤ 15625 ∧ 0 < (5 : Int) ^ h := by decide
  have k19 : ∀ h (w : Nat → Int), h < 6 → Okw N nb w → dot w (fun _ => 1) 128 ≤ 5 ^ h → dot w (C (6 - h)) 128 = C 6 0 → (∀ ω' w', Fr [] [28] ω ω' → Wr ω' (h + 1) w' → (∀ h', h + 1 < h' → h' ≤ 6 → Wr ω' h' (fun _ => 0)) → Okw N nb w' → dot w' (fun _ => 1) 128 ≤ 5 ^ (h + 1) → dot w' (C (6 - (h + 1))) 128 = C 6 0 → me_W 119 9 [some (.ref 0), some (.int (nI set)), some (.int fh), some (.int fg), some (.int (nI (h + 1))), none, none, none] [] ω' (fun r ω' => ∃ v : Int64, r = some (.long v) ∧ Q v ω')) → ∀ n j ω' w', j + n = 128 → Fr [] [28] ω ω' → Wr ω' h w → (∀ h', h + 1 < h' → h' ≤ 6 → Wr ω' h' (fun _ => 0)) → Wr ω' (h + 1) w' → Okw N nb w' → (∀ F, dot w' F 128 = dot w (fun W => sF (al h) (fun f => F (stW nb m kd sk ord tn h f W)) 5) j) → me_W 119 19 [some (.ref 0), some (.int (nI set)), some (.int fh), some (.int fg), some (.int (nI h)), some (.int (nI j)), none, none] [] ω' (fun r ω' => ∃ v : Int64, r = some (.long v) ∧ Q v ω') := by
    intro h w hh hok hsum hval next n
    have nn : ∀ j, j < 128 → 0 ≤ w j := fun j hj => (hok j hj).1
    have b := b5 h (by omega)
    induction n with
    | zero =>
      intro j ω' w' hj hF hw hz hw1 hok1 hd
      obtain rfl : j = 128 := by omega
      refine vl_119_19 ω' _ _ _ _ _ (br_t (by decide) ?_)
      rw [nI_1]
      refine next ω' w' hF hw1 hz hok1 ?_ ?_
      · rw [hd (fun _ => 1)]
        have m0 : sF (al h) (fun _ => (1 : Int)) 5 ≤ 5 := by
          have := (sF_le (al := al h) (G := fun _ => 1) (c := 1) (by decide) 5 (fun f _ => ⟨by show (0 : Int) ≤ 1; decide, Int.le_refl _⟩)).2
          omega
        have m1 : dot w (fun _ => sF (al h) (fun _ => (1 : Int)) 5) 128 ≤ dot w (fun _ => 5) 128 := dot_mono 128 nn (fun _ _ => m0)
        have e5 := dot_con (w := w) (c := 5) 128
        rw [Int.pow_succ]
        omega
      · rw [hd, ← hval]
        refine dot_c 128 (fun j hj => Or.inr ?_)
        rw [eCs h hh]
    | succ n ih =>
      intro j ω' w' hj hF hw hz hw1 hok1 hd
      have nj := hok j (by omega)
      have bj := (dot_nn 128 nn).2 j (by omega)
      refine vl_119_19 ω' _ _ _ _ _ (br_f (nI_ge (b := 128) (by omega) (by decide)) (t58w (by omega) (by omega) ?_))
      rw [hw j (by omega), nI_1]
      have hcm : (lg_cmp (jI (w j)) (0 : Int64) ≤ 0) ↔ w j ≤ 0 := by
        rw [← jI_0]
        exact jI_cle ⟨by omega, by omega⟩ ⟨by decide, by decide⟩
      refine ⟨fun c => ih (j + 1) ω' w' (by omega) hF hw hz hw1 hok1 (fun F => ?_), fun c => ?_⟩
      · have c' := hcm.mp c
        have z : w j = 0 := by omega
        show _ = dot w _ j + w j * _
        rw [hd F, z]
        omega
      · have c' : ¬ w j ≤ 0 := fun z => c (hcm.mpr z)
        have hS : Sup N nb j := by
          by_cases y : Sup N nb j
          · exact y
          · exact absurd (nj.2 y) (by omega)
        have go : ∀ g : Int32, (g = (if nI h = fh then fg else -1)) → me_CtV 120 [.ref 0, .int (nI h), .int (nI j), .long (jI (w j)), .int g] ω' (fun ω3 => me_W 119 19 [some (.ref 0), some (.int (nI set)), some (.int fh), some (.int fg), some (.int (nI h)), some (.int (nI (j + 1))), none, none] [] ω3 (fun r ω' => ∃ v : Int64, r = some (.long v) ∧ Q v ω')) := by
          intro g eg
          refine t120 (al := al h) hp (hc.fr hF ⟨rfl, rfl, rfl, rfl⟩) hm7 ho (hr.fr hF ⟨rfl, rfl⟩) (by rw [hF.1 8 rfl]; exact hch) hh hS (by omega) (fun f hf => ?_) hw1 hok1 (fun ω2 w2 hF2 ho2 hw2 hok2 hd2 => ?_)
          · rw [hal h hh f hf, eg]
            by_cases y : nI h = fh
            · rw [if_pos y]
              exact ⟨fun z => ⟨z.1 y, z.2⟩, fun z => ⟨fun _ => z.1, z.2⟩⟩
            · rw [if_neg y]
              exact ⟨fun z => ⟨Or.inl rfl, z.2⟩, fun z => ⟨fun y' => absurd y' y, z.2⟩⟩
          · refine ih (j + 1) ω2 w2 (by omega) (hF.trans hF2) (fun V hV => ?_) (fun h' h1 h2 V hV => ?_) hw2 hok2 (fun F => ?_)
            · rw [ho2 _ (by omega)]; exact hw V hV
            · rw [ho2 _ (by omega)]; exact hz h' h1 h2 V hV
            · rw [hd2 F, hd F]
              rfl
        exact ⟨fun y => go _ (by rw [if_pos y]), fun y => go _ (by rw [if_neg y])⟩
  have k9 : ∀ n h ω' w, h + n = 6 → Fr [] [28] ω ω' → Wr ω' h w → (∀ h', h < h' → h' ≤ 6 → Wr ω' h' (fun _ => 0)) → Okw N nb w → dot w (fun _ => 1) 128 ≤ 5 ^ h → dot w (C (6 - h)) 128 = C 6 0 → me_W 119 9 [some (.ref 0), some (.int (nI set)), some (.int fh), some (.int fg), some (.int (nI h)), none, none, none] [] ω' (fun r ω' => ∃ v : Int64, r = some (.long v) ∧ Q v ω') := by
    intro n
    induction n with
    | zero =>
      intro h ω' w hn hF hw hz hok hsum hval
      obtain rfl : h = 6 := by omega
      have nn : ∀ j, j < 128 → 0 ≤ w j := fun j hj => (hok j hj).1
      have bj := (dot_nn 128 nn).2 set hset
      have b := b5 6 (by omega)
      have e : C (6 - 6) = dlt set := by
        rw [eC]
        funext W
        rfl
      rw [e, dot_dr, if_pos hset] at hval
      refine vl_119_9 ω' _ _ _ _ (br_t (by decide) (t58w (h := 6) (by omega) hset ⟨_, rfl, ?_⟩))
      rw [hw set hset, hval]
      have := nn set hset
      exact q ω' hF (by omega) (by omega)
    | succ n ih =>
      intro h ω' w hn hF hw hz hok hsum hval
      refine vl_119_9 ω' _ _ _ _ (br_f (nI_ge (b := 6) (by omega) (by decide)) ?_)
      refine k19 h w (by omega) hok hsum hval (fun ω2 w2 hF2 hw2 hz2 hok2 hs2 hv2 => ih (h + 1) ω2 w2 (by omega) hF2 hw2 hz2 hok2 hs2 hv2) 128 0 ω' (fun _ => 0) (by omega) hF hw (fun h' h1 h2 => hz h' (by omega) h2) (hz (h + 1) (by omega) (by omega)) (fun V _ => ⟨Int.le_refl _, fun _ => rfl⟩) (fun F => by rw [dot_z]; rfl)
  refine vc_119 ω _ _ _ (t116 (H := 0) (W := 0) (by omega) (by omega) (fun ω1 hF1 hw1 hz1 => ?_))
  refine k9 6 0 ω1 (dlt 0) rfl hF1 hw1 hz1 (fun V hV => ?_) ?_ ?_
  · unfold dlt
    by_cases c : V = 0
    · subst c
      rw [if_pos rfl]
      exact ⟨by decide, fun z => absurd ⟨Nat.pow_pos (by decide), Nat.zero_and _⟩ z⟩
    · rw [if_neg c]
      exact ⟨Int.le_refl _, fun _ => rfl⟩
  · rw [dot_d, if_pos (by omega)]
    exact Int.le_refl _
  · rw [dot_d, if_pos (by omega)]
theorem t30 {ω : Om} {N nb : Nat} (hN : N ≤ 7) (e : ω.1 11 4 = nI N) (eb : ω.1 11 5 = nI nb) (hnb : nb < 2 ^ N) {p : Int32} {Q : Int32 → Om → Prop} (h1 : ∀ S, S < 2 ^ N → p = nI S → S &&& nb = 0 → Q 1 ω) (h0 : (∀ S, S < 2 ^ N → p = nI S → ¬ S &&& nb = 0) → Q 0 ω) : me_CtI 30 [.ref 11, .int p] ω Q := by
  have h7 := pow7 hN
  refine vc_30 ω p (t29 hN e (fun v => br_f (by decide) ?_) (fun v => br_t rfl ⟨Or.inl rfl, _, rfl, h0 (fun S hS eS => absurd (by rw [eS]; exact vp_in_nI hS (by omega)) v)⟩))
  obtain ⟨S, hS, rfl⟩ := vp_in_of v (by omega)
  rw [eb, and_nI (by omega) (by omega)]
  have hl : S &&& nb < 2 ^ 31 := Nat.lt_of_le_of_lt Nat.and_le_left (by omega)
  refine ⟨fun c => ⟨Or.inr rfl, _, rfl, h1 S hS rfl ((nI_eq (b := 0) hl (by decide)).mp c)⟩, fun c => ⟨Or.inl rfl, _, rfl, h0 (fun T hT eT => ?_)⟩⟩
  obtain rfl : S = T := (nI_eq (by omega) (by omega)).mp eT
  exact fun z => c (by rw [z]; rfl)
