/-! NIGHTS BY A SEED: both -/
def sdF (z : Int32) : Int32 := ((((1103515245 : Int64) * z.toInt64) + (12345 : Int64)) &&& (2147483647 : Int64)).toInt32
def drF (z : Int32) : Int32 := (z / (65536 : Int32)) - (z / (65536 : Int32)) / (10 : Int32) * (10 : Int32)
def thF (x : Nat → Nat) (h : Nat) (d : Int32) : Nat → Nat → Int32
  | 0, _ => -1
  | n + 1, t => if nI (sx x h (t + 1)) ≤ d then thF x h d n (t + 1) else nI t
def sdN : Nat → Int32 → Int32
  | 0, z => z
  | n + 1, z => sdN n (sdF z)
theorem thF_or {x : Nat → Nat} {h : Nat} {d : Int32} : ∀ n t, thF x h d n t = -1 ∨ ∃ t', t' < t + n ∧ thF x h d n t = nI t'
  | 0, _ => Or.inl rfl
  | n + 1, t => by
    unfold thF
    by_cases c : nI (sx x h (t + 1)) ≤ d
    · rw [if_pos c]
      rcases thF_or (x := x) (h := h) (d := d) n (t + 1) with e | ⟨t', a, e⟩
      · exact Or.inl e
      · exact Or.inr ⟨t', by omega, e⟩
    · rw [if_neg c]
      exact Or.inr ⟨t, by omega, rfl⟩
theorem t3 {ω : Om} {x : Nat → Nat} (hx : ∀ k, k < 24 → ω.1 8 k = nI (x k)) {h : Nat} (hh : h < 6) {d : Int32} {Q : Int32 → Om → Prop} (q : Q (thF x h d 4 0) ω) : me_CtI 3 [.ref 7, .int (nI h), .int d] ω Q := by
  have key : ∀ n t, t + n = 4 → Q (thF x h d n t) ω → me_W 3 5 [some (.ref 7), some (.int (nI h)), some (.int d), some (.int (nI (sx x h t))), some (.int (nI t))] [] ω (fun r ω' => ∃ v : Int32, r = some (.int v) ∧ Q v ω') := by
    intro n
    induction n with
    | zero =>
      intro t ht q
      obtain rfl : t = 4 := by omega
      exact vl_3_5 ω _ _ _ _ (br_t (by decide) ⟨_, rfl, q⟩)
    | succ n ih =>
      intro t ht q
      refine vl_3_5 ω _ _ _ _ (br_f (nI_ge (b := 4) (by omega) (by decide)) (t2 (fun a b ha hb ea eb => ?_) (fun z => absurd ⟨vp_in_nI hh (by decide), vp_in_nI (by omega) (by decide)⟩ z)))
      obtain rfl : h = a := (nI_eq (by omega) (by omega)).mp ea
      obtain rfl : t = b := (nI_eq (by omega) (by omega)).mp eb
      rw [hx _ (by omega), Nat.mul_comm h 4, nI_add, nI_1]
      have es : sx x h t + x (4 * h + t) = sx x h (t + 1) := rfl
      rw [es]
      unfold thF at q
      refine ⟨fun c => ih (t + 1) (by omega) ?_, fun c => ⟨_, rfl, ?_⟩⟩
      · rw [if_pos c] at q; exact q
      · rw [if_neg c] at q; exact q
  exact vc_3 ω _ _ (key 4 0 rfl q)
theorem t175 {ω : Om} {x : Nat → Nat} (hx : ∀ k, k < 24 → ω.1 31 k = nI (x k)) {h : Nat} (hh : h < 6) {Q : Int32 → Om → Prop} (q : Q (thF x h (drF (sdF (ω.1 29 29))) 4 0) (ui ω 29 29 (sdF (ω.1 29 29)))) : me_CtI 175 [.ref 29, .int (nI h)] ω Q := by
  obtain ⟨ω1, eω⟩ : ∃ ω1, ω1 = ui ω 29 29 (sdF (ω.1 29 29)) := ⟨_, rfl⟩
  have hx1 : ∀ k, k < 24 → ω1.1 31 k = nI (x k) := by
    rw [eω]
    exact hx
  obtain ⟨d, ed⟩ : ∃ d, d = drF (sdF (ω.1 29 29)) := ⟨_, rfl⟩
  rw [← eω, ← ed] at q
  have key : ∀ n t, t + n = 4 → Q (thF x h d n t) ω1 → me_W 175 12 [some (.ref 29), some (.int (nI h)), some (.int d), some (.int (nI (sx x h t))), some (.int (nI t))] [] ω1 (fun r ω' => ∃ v : Int32, r = some (.int v) ∧ Q v ω') := by
    intro n
    induction n with
    | zero =>
      intro t ht q
      obtain rfl : t = 4 := by omega
      exact vl_175_12 ω1 _ _ _ _ (br_t (by decide) ⟨_, rfl, q⟩)
    | succ n ih =>
      intro t ht q
      refine vl_175_12 ω1 _ _ _ _ ?_
      rw [ix4', nI_clamp (by omega), hx1 _ (by omega), nI_add, nI_1]
      have es : sx x h t + x (4 * h + t) = sx x h (t + 1) := rfl
      rw [es]
      unfold thF at q
      refine br_f (nI_ge (b := 4) (by omega) (by decide)) ⟨vp_in_nI (by omega) (by decide), fun c => ih (t + 1) (by omega) ?_, fun c => ⟨_, rfl, ?_⟩⟩
      · rw [if_pos c] at q; exact q
      · rw [if_neg c] at q; exact q
  have k0 := key 4 0 rfl q
  rw [ed, eω] at k0
  exact vc_175 ω _ (vc_174 ω _ ⟨by decide, by decide, _, rfl, k0⟩)
/-- a night: each hour what comes, who is woken, what is mended -/
def NT (nb : Nat) (x : Nat → Nat) (mn : Nat → Nat → Nat → Nat) (stp : Nat → Nat → Nat → Nat → Prop) : Nat → Int32 → Nat → Int32 → Int32 → Prop
  | 0, _, _, a, r => r = a
  | n + 1, z, W, a, r => (thF x (5 - n) (drF (sdF z)) 4 0 = -1 → NT nb x mn stp n (sdF z) W a r) ∧ ∀ t, t < 4 → thF x (5 - n) (drF (sdF z)) 4 0 = nI t → ∃ S, stp (5 - n) t W S ∧ NT nb x mn stp n (sdF z) (W ||| dif S nb) (a + nI (mn (5 - n) t S)) r
theorem NT_uniq {nb : Nat} {x : Nat → Nat} {mn : Nat → Nat → Nat → Nat} {stp : Nat → Nat → Nat → Nat → Prop} (hu : ∀ h t W S S', stp h t W S → stp h t W S' → S = S') : ∀ n z W a r r', NT nb x mn stp n z W a r → NT nb x mn stp n z W a r' → r = r'
  | 0, _, _, _, _, _, h, h' => by
    have e : _ = _ := h
    have e' : _ = _ := h'
    rw [e, e']
  | n + 1, z, W, a, r, r', h, h' => by
    rcases thF_or (x := x) (h := 5 - n) (d := drF (sdF z)) 4 0 with e | ⟨t, ht, e⟩
    · exact NT_uniq hu n _ _ _ _ _ (h.1 e) (h'.1 e)
    · obtain ⟨S, s1, s2⟩ := h.2 t (by omega) e
      obtain ⟨S', s1', s2'⟩ := h'.2 t (by omega) e
      obtain rfl := hu _ _ _ _ _ s1 s1'
      exact NT_uniq hu n _ _ _ _ _ s2 s2'
theorem NT_none {nb : Nat} {x : Nat → Nat} {mn : Nat → Nat → Nat → Nat} {stp : Nat → Nat → Nat → Nat → Prop} {h n W : Nat} {z a r : Int32} (hn : h + (n + 1) = 6) (e : thF x h (drF (sdF z)) 4 0 = -1) (k : NT nb x mn stp n (sdF z) W a r) : NT nb x mn stp (n + 1) z W a r := by
  have e5 : 5 - n = h := by omega
  show (thF x (5 - n) (drF (sdF z)) 4 0 = -1 → _) ∧ ∀ t, t < 4 → thF x (5 - n) (drF (sdF z)) 4 0 = nI t → _
  rw [e5]
  exact ⟨fun _ => k, fun t ht e' => absurd (e'.symm.trans e) (m1_ne (by omega))⟩
theorem NT_some {nb : Nat} {x : Nat → Nat} {mn : Nat → Nat → Nat → Nat} {stp : Nat → Nat → Nat → Nat → Prop} {h n W t S : Nat} {z a r : Int32} (hn : h + (n + 1) = 6) (ht : t < 4) (e : thF x h (drF (sdF z)) 4 0 = nI t) (hs : stp h t W S) (k : NT nb x mn stp n (sdF z) (W ||| dif S nb) (a + nI (mn h t S)) r) : NT nb x mn stp (n + 1) z W a r := by
  have e5 : 5 - n = h := by omega
  show (thF x (5 - n) (drF (sdF z)) 4 0 = -1 → _) ∧ ∀ t, t < 4 → thF x (5 - n) (drF (sdF z)) 4 0 = nI t → _
  rw [e5]
  refine ⟨fun e' => absurd (e.symm.trans e') (m1_ne (by omega)), fun t' ht' e' => ?_⟩
  obtain rfl : t = t' := (nI_eq (by omega) (by omega)).mp (e.symm.trans e')
  exact ⟨S, hs, k⟩
/-- whom the plan wakes, whom the rule -/
def stB (N nb : Nat) (kd : Nat → Int32) (sk hm x : Nat → Nat) (h t W S : Nat) : Prop := Opt N kd h (dif (2 ^ N - 1) W) (vA N nb (hm t) (gM kd sk t h) (10 ^ (5 - h)) (plF N nb kd sk hm x (6 - (h + 1))) (dif (2 ^ N - 1) W)) S
def stR (m : Nat) (kd : Nat → Int32) (sk ord : Nat → Nat) (tn : Int32) (h t W S : Nat) : Prop := S = ruS (RuP kd (gM kd sk t h) tn h W) ord m 0
theorem sup_or {N nb W S : Nat} (h : Sup N nb W) (hS : S < 2 ^ N) : Sup N nb (W ||| dif S nb) := ⟨Nat.or_lt_two_pow h.1 (dif_lt hS), nw_ok h.2⟩
/-- the class: by the plan or by the rule -/
theorem t121 {ω : Om} {N nb m : Nat} {kd : Nat → Int32} {sk hm ord x : Nat → Nat} {tn : Int32} (hp : HP N nb kd sk hm) (hc : HC N nb kd sk hm ω) (hm7 : m ≤ 7) (ho : ∀ k, k < m → ord k < N) (hr : RC m ord tn ω) (hx : ∀ k, k < 24 → ω.1 8 k = nI (x k)) (hs : ∀ h, s4 x h ≤ 10) {H W : Nat} (hH : H ≤ 6) (hS : Sup N nb W) (eH : ω.1 16 0 = nI H) (eW : ω.1 16 1 = nI W) {z w : Int32} {stp : Nat → Nat → Nat → Nat → Prop} (hw : (w = 0 ∧ stp = stB N nb kd sk hm x ∧ ∀ h, h ≤ 6 → Rw 26 ω h N (plF N nb kd sk hm x (6 - h))) ∨ (w = 1 ∧ stp = stR m kd sk ord tn)) {Q : Int32 → Om → Prop} (q : ∀ r ω', Fr [20, 21, 22, 24] [23] ω ω' → NT nb x (fun h t S => mnd N (hm t) (gM kd sk t h) S) stp (6 - H) z W 0 r → Q r ω') : me_CtI 121 [.ref 0, .int z, .int w] ω Q := by
  obtain ⟨hN, hnb, hk, hsk, hhm⟩ := id hp
  have h7 := pow7 hN
  have w2 : ¬ w = 2 := by
    rcases hw with ⟨e, _⟩ | ⟨e, _⟩ <;> rw [e] <;> decide
  have bf : ∀ n, n ≤ 6 → Bf N (plF N nb kd sk hm x n) := fun n hn B hB => by
    have := pl_n (nb := nb) (kd := kd) (sk := sk) hhm hs hn hB
    omega
  have key : ∀ n h z W (a : Int32) ω', h + n = 6 → Sup N nb W → Fr [20, 21, 22, 24] [23] ω ω' → (∀ r ω'', Fr [20, 21, 22, 24] [23] ω ω'' → NT nb x (fun h t S => mnd N (hm t) (gM kd sk t h) S) stp n z W a r → Q r ω'') → me_W 121 23 [some (.ref 0), none, some (.int w), some (.int z), some (.int (nI W)), some (.int a), some (.int (nI h)), none, none] [] ω' (fun r ω' => ∃ v : Int32, r = some (.int v) ∧ Q v ω') := by
    intro n
    induction n with
    | zero =>
      intro h z W a ω' hn hSW hF qq
      obtain rfl : h = 6 := by omega
      exact vl_121_23 ω' _ _ _ _ _ (br_t (by decide) (br_f w2 ⟨_, rfl, qq a ω' hF rfl⟩))
    | succ n ih =>
      intro h z W a ω' hn hSW hF qq
      have hWl := hSW.1
      have hc' : HC N nb kd sk hm ω' := hc.fr hF ⟨rfl, rfl, rfl, rfl⟩
      refine vl_121_23 ω' _ _ _ _ _ (br_f (nI_ge (b := 6) (by omega) (by decide)) (vc_103 ω' z ⟨_, rfl, by decide, by decide, ?_⟩))
      rw [show ((((1103515245 : Int64) * z.toInt64) + (12345 : Int64)) &&& (2147483647 : Int64)).toInt32 = sdF z from rfl, show (sdF z / (65536 : Int32)) - (sdF z / (65536 : Int32)) / (10 : Int32) * (10 : Int32) = drF (sdF z) from rfl]
      refine t3 (x := x) (by rw [hF.1 8 rfl]; exact hx) (by omega) ?_
      rcases thF_or (x := x) (h := h) (d := drF (sdF z)) 4 0 with e | ⟨t, ht, e⟩
      · refine br_t e ?_
        rw [nI_1]
        exact ih (h + 1) (sdF z) W a ω' (by omega) hSW hF (fun r ω'' h1 h2 => qq r ω'' h1 (NT_none hn e h2))
      · have ht4 : t < 4 := by omega
        rw [e]
        refine br_f (m1_ne (by omega)) (br_f w2 ?_)
        rw [nI_1]
        rcases hw with ⟨ew, es, hrw⟩ | ⟨ew, es⟩
        · refine br_f (by rw [ew]; decide) (t28 hN hc'.1 ?_)
          rw [dif_I (by have := p2_pos N; omega) (by omega)]
          refine t110 (h := h) (t := t) (A := dif (2 ^ N - 1) W) (f := plF N nb kd sk hm x (6 - (h + 1))) hp hc' (by omega) ht4 (dif_lt (E_lt N)) (fun B hB => by rw [hF.2 26 rfl]; exact hrw (h + 1) (by omega) B hB) (bf _ (by omega)) (plF_mn _) (fun p ω2 hF2 hop => ?_)
          have hF2' : Fr [20, 21, 22, 24] [23] ω ω2 := hF.trans hF2
          have hc2 : HC N nb kd sk hm ω2 := hc.fr hF2' ⟨rfl, rfl, rfl, rfl⟩
          have hpN := hop.1
          refine t35N (S := p) (t := t) (H := h) hp hc2 (by omega) ht4 (by omega) (t31 ?_)
          rw [or_spent hc2.2.1 (by omega) (by omega) (by omega)]
          exact ih (h + 1) (sdF z) _ _ ω2 (by omega) (sup_or hSW hpN) hF2' (fun r ω'' h1 h2 => qq r ω'' h1 (NT_some (mn := fun h t S => mnd N (hm t) (gM kd sk t h) S) hn ht4 e (by rw [es]; exact hop) h2))
        · have hsl : ruS (RuP kd (gM kd sk t h) tn h W) ord m 0 < 2 ^ N := ruS_lt m 0 (fun i hi => ho i (by omega))
          refine br_t ew (t115 (H := h) (t := t) (W := W) hp hc' hm7 ho (hr.fr hF ⟨rfl, rfl⟩) (by omega) ht4 hSW.1 hSW.2 (t35N (S := ruS (RuP kd (gM kd sk t h) tn h W) ord m 0) (t := t) (H := h) hp hc' (by omega) ht4 (by omega) (t31 ?_)))
          rw [or_spent hc'.2.1 (by omega) (by omega) (by omega)]
          exact ih (h + 1) (sdF z) _ _ ω' (by omega) (sup_or hSW hsl) hF (fun r ω'' h1 h2 => qq r ω'' h1 (NT_some (mn := fun h t S => mnd N (hm t) (gM kd sk t h) S) hn ht4 e (by rw [es]; rfl) h2))
  refine vc_121 ω _ _ ?_
  rw [eH, eW]
  exact key (6 - H) H z W 0 ω (by omega) hS (Fr.o _ _ ω) (fun r ω'' h1 h2 => q r ω'' h1 h2)
/-- the class: the seed alone -/
theorem t121s {ω : Om} {x : Nat → Nat} (hx : ∀ k, k < 24 → ω.1 8 k = nI (x k)) {H : Nat} (hH : H ≤ 6) (eH : ω.1 16 0 = nI H) {z : Int32} {Q : Int32 → Om → Prop} (q : Q (sdN (6 - H) z) ω) : me_CtI 121 [.ref 0, .int z, .int (2 : Int32)] ω Q := by
  have key : ∀ n h z (W a : Int32), h + n = 6 → Q (sdN n z) ω → me_W 121 23 [some (.ref 0), none, some (.int (2 : Int32)), some (.int z), some (.int W), some (.int a), some (.int (nI h)), none, none] [] ω (fun r ω' => ∃ v : Int32, r = some (.int v) ∧ Q v ω') := by
    intro n
    induction n with
    | zero =>
      intro h z W a hn qq
      obtain rfl : h = 6 := by omega
      exact vl_121_23 ω _ _ _ _ _ (br_t (by decide) (br_t rfl ⟨_, rfl, qq⟩))
    | succ n ih =>
      intro h z W a hn qq
      refine vl_121_23 ω _ _ _ _ _ (br_f (nI_ge (b := 6) (by omega) (by decide)) (vc_103 ω z ⟨_, rfl, by decide, by decide, t3 (x := x) hx (by omega) ?_⟩))
      rw [nI_1]
      have i1 := ih (h + 1) (sdF z) W a (by omega) qq
      exact ⟨fun _ => i1, fun _ => br_t rfl i1⟩
  refine vc_121 ω _ _ ?_
  rw [eH]
  exact key (6 - H) H z _ 0 (by omega) q
/-- the reference -/
theorem t176 {ω : Om} {N nb m : Nat} {kd : Nat → Int32} {sk hm ord x : Nat → Nat} {tn : Int32} (hp : HP N nb kd sk hm) (hc : HM N kd sk hm ω) (hm7 : m ≤ 7) (ho : ∀ k, k < m → ord k < N) (hr : RM m ord tn ω) (hx : ∀ k, k < 24 → ω.1 31 k = nI (x k)) (hs : ∀ h, s4 x h ≤ 10) {H W : Nat} (hH : H ≤ 6) (hW : W < 2 ^ N) (eH : ω.1 29 16 = nI H) (eW : ω.1 29 17 = nI W) {z w : Int32} (hz : ¬ z < 0) (hw3 : vp_in w 3) {stp : Nat → Nat → Nat → Nat → Prop} (hw : (w = 0 ∧ stp = stB N nb kd sk hm x) ∨ (¬ w = 0 ∧ stp = stR m kd sk ord tn)) {Q : Int32 → Om → Prop} (q : ∀ r v ω2, Fr [] [39, 40] ω ω2 → NT nb x (fun h t S => mnd N (hm t) (gM kd sk t h) S) stp (6 - H) z W 0 r → v = (if w = 2 then sdN (6 - H) z else if w = 1 ∧ m = 0 then -1 else r) → Q v (ui ω2 29 29 (sdN (6 - H) z))) : me_CtI 176 [.ref 29, .int z, .int w] ω Q := by
  obtain ⟨hN, hnb, hk, hsk, hhm⟩ := id hp
  have h7 := pow7 hN
  refine vc_176 ω z w (br_f hz (t123n 3 (by decide) (by decide) (fun _ => br_f (by decide) (t151 (x := x) hp hc hx hs (fun ω2 hF2 hpw hr2 => ?_))) (fun y => absurd hw3 y)))
  have hc2 : HM N kd sk hm ω2 := hc.fr hF2 ⟨rfl, rfl, rfl, rfl⟩
  have hrm2 : RM m ord tn ω2 := hr.fr hF2 ⟨rfl, rfl⟩
  have e31 : ω2.1 31 = ω.1 31 := hF2.1 31 rfl
  have e16 : ω2.1 29 16 = nI H := by rw [hF2.1 29 rfl]; exact eH
  have e17 : ω2.1 29 17 = nI W := by rw [hF2.1 29 rfl]; exact eW
  have key : ∀ n h y V (a : Int32), h + n = 6 → V < 2 ^ N → (∀ r, NT nb x (fun h t S => mnd N (hm t) (gM kd sk t h) S) stp n y V a r → sdN n y = sdN (6 - H) z → ∀ v, v = (if w = 2 then sdN (6 - H) z else if w = 1 ∧ m = 0 then -1 else r) → Q v (ui ω2 29 29 (sdN (6 - H) z))) → sdN n y = sdN (6 - H) z → me_W 176 42 [some (.ref 29), none, some (.int w), some (.int a), some (.int (nI V)), some (.int (nI h)), none, none] [] (ui ω2 29 29 y) (fun r ω' => ∃ v : Int32, r = some (.int v) ∧ Q v ω') := by
    intro n
    induction n with
    | zero =>
      intro h y V a hn hV qq hsd
      obtain rfl : h = 6 := by omega
      have hq := qq a rfl hsd
      have ey : y = sdN (6 - H) z := hsd
      have e29 : (ui ω2 29 29 y).1 29 29 = sdN (6 - H) z := by rw [ui_s, ey]
      have e9 : (ui ω2 29 29 y).1 29 9 = nI m := hrm2.1
      refine vl_176_42 _ _ _ _ _ (br_t (by decide) ?_)
      rw [e29, e9, ey]
      refine ⟨fun c => ⟨_, rfl, hq _ (by rw [if_pos c])⟩, fun c => ⟨fun c1 => ⟨fun c2 => ⟨_, rfl, hq _ ?_⟩, fun c2 => ⟨_, rfl, hq _ ?_⟩⟩, fun c1 => ⟨_, rfl, hq _ ?_⟩⟩⟩
      · have m0 : m = 0 := (nI_eq (b := 0) (by omega) (by decide)).mp c2
        rw [if_neg c, if_pos ⟨c1, m0⟩]
      · rw [if_neg c, if_neg (fun y => c2 (by rw [y.2]; rfl))]
      · rw [if_neg c, if_neg (fun y => c1 y.1)]
    | succ n ih =>
      intro h y V a hn hV qq hsd
      have e29 : (ui ω2 29 29 y).1 29 29 = y := ui_s
      refine vl_176_42 _ _ _ _ _ (br_f (nI_ge (b := 6) (by omega) (by decide)) (t175 (x := x) (fun k hk24 => ?_) (by omega) ?_))
      · show ω2.1 31 k = _
        rw [e31]
        exact hx k hk24
      rw [e29, ui_ui, nI_1]
      have hcy : HM N kd sk hm (ui ω2 29 29 (sdF y)) := hc2
      have hry : RM m ord tn (ui ω2 29 29 (sdF y)) := hrm2
      have hsd' : sdN n (sdF y) = sdN (6 - H) z := hsd
      rcases thF_or (x := x) (h := h) (d := drF (sdF y)) 4 0 with e | ⟨t, ht, e⟩
      · refine br_t e ?_
        exact ih (h + 1) (sdF y) V a (by omega) hV (fun r h1 h2 => qq r (NT_none hn e h1) hsd) hsd'
      · have ht4 : t < 4 := by omega
        rw [e]
        refine br_f (m1_ne (by omega)) ?_
        have fin : ∀ S, S < 2 ^ N → stp h t V S → me_CtI 146 [.ref 29, .int (nI S), .int (nI t), .int (nI h)] (ui ω2 29 29 (sdF y)) (fun v3 ω3 => me_CtI 147 [.ref 29, .int (nI S), .int (nI V)] ω3 (fun v4 ω4 => me_W 176 42 [some (.ref 29), none, some (.int w), some (.int (a + v3)), some (.int v4), some (.int (nI (h + 1))), none, none] [] ω4 (fun r ω' => ∃ v : Int32, r = some (.int v) ∧ Q v ω'))) := by
          intro S hSN hst
          refine t146N hp hcy (by omega) ht4 (by omega) (t147 hN hcy.1 (by omega) (by omega) ?_)
          have egn : gn ((ui ω2 29 29 (sdF y)).1 35) S V N = V ||| dif S nb := by
            rw [gn_kd (k' := kd) (fun s hs => hcy.2.1 s (by omega)), gn_eq hSN hk]
            rfl
          rw [egn]
          exact ih (h + 1) (sdF y) _ _ (by omega) (Nat.or_lt_two_pow hV (dif_lt hSN)) (fun r h1 h2 => qq r (NT_some (mn := fun h t S => mnd N (hm t) (gM kd sk t h) S) hn ht4 e hst h1) hsd) hsd'
        rcases hw with ⟨ew, es⟩ | ⟨ew, es⟩
        · have tn1 := ten_le (5 - h) (by omega)
          refine br_t ew (t150 (u := 10 ^ (5 - h)) (f := plF N nb kd sk hm x (6 - (h + 1))) hp hcy (by omega) ht4 hV (by omega) (by omega) (hpw _ (by omega)) (hr2 (h + 1) (by omega)) (fun B hB => by
            have := pl_n (nb := nb) (kd := kd) (sk := sk) hhm hs (n := 6 - (h + 1)) (by omega) hB
            omega) (fun p hop => fin p hop.1 (by rw [es]; exact hop)))
        · have hsl : ruS (RuP kd (gM kd sk t h) tn h V) ord m 0 < 2 ^ N := ruS_lt m 0 (fun i hi => ho i (by omega))
          exact br_f ew (t163 hp hcy hm7 ho hry (by omega) ht4 hV (fin _ hsl (by rw [es]; rfl)))
  rw [e17, e16]
  exact key (6 - H) H z W 0 (by omega) hW (fun r h1 _ v ev => q r v ω2 hF2 h1 ev) rfl
theorem q_86a {ω : Om} (hR : R ω) (a b : Int32) : Pr 86 [.ref 0, .int a, .int b] 176 [.ref 29, .int a, .int b] ω := by
  intro Q hQ
  obtain ⟨N, nb, H, W, hp, hc, hM, hH, hW, hWn, e1, e2, e3, e4, hx, hxm, hs, hY⟩ := hR.hs
  obtain ⟨hN, hnb, hk, hsk, hhm⟩ := id hp
  obtain ⟨m, ord, tn, hm7, ho, hrc, hrm⟩ := hR.rule hN hM.1
  have outM : ∀ ω', ¬ (¬ a < 0 ∧ vp_in b 3) → ∀ X : Int32 → Om → Prop, X (-102) ω' → me_CtI 176 [.ref 29, .int a, .int b] ω' X := by
    intro ω' hn X hX
    refine vc_176 ω' a b ⟨fun _ => ⟨_, rfl, hX⟩, fun c => t123n 3 (by decide) (by decide) (fun v => absurd ⟨c, v⟩ hn) (fun _ => br_t rfl ⟨_, rfl, hX⟩)⟩
  have ub : ∀ h t W S S', stB N nb (ω.1 12) (cl (ω.1 14)) (cl (ω.1 15)) (clB (ω.1 8)) h t W S → stB N nb (ω.1 12) (cl (ω.1 14)) (cl (ω.1 15)) (clB (ω.1 8)) h t W S' → S = S' := fun h t W S S' s1 s2 => Opt.uniq hN s1 s2
  have ur' : ∀ h t W S S', stR m (ω.1 12) (cl (ω.1 14)) ord tn h t W S → stR m (ω.1 12) (cl (ω.1 14)) ord tn h t W S' → S = S' := fun h t W S S' s1 s2 => Eq.trans s1 (Eq.symm s2)
  have hRs : ∀ {ω1 ω2 : Om} {y : Int32}, R ω1 → Fr [] [39, 40] ω1 ω2 → R (ui ω2 29 29 y) := fun h1 h2 => (h1.sc (scV h2)).sc (Sc_ui rfl (Sc.o _))
  by_cases hab : ¬ a < 0 ∧ vp_in b 3
  · obtain ⟨ha, hb⟩ := hab
    obtain ⟨k, hk3, rfl⟩ := vp_in_of hb (by decide)
    match k, hk3 with
    | 0, _ =>
      refine vc_86 ω a (nI 0) (br_f ha (br_f (by decide) (br_t (by decide) (br_f (by decide) (br_t rfl (t108R hR hp hc hx hs hY (fun ω1 hR1 hF1 hr1 => ?_)))))))
      refine t121 (x := clB (ω.1 8)) (stp := stB N nb (ω.1 12) (cl (ω.1 14)) (cl (ω.1 15)) (clB (ω.1 8))) hp (hc.fr hF1 ⟨rfl, rfl, rfl, rfl⟩) hm7 ho (hrc.fr hF1 ⟨rfl, rfl⟩) (by rw [hF1.1 8 rfl]; exact hx) hs hH ⟨hW, hWn⟩ (by rw [hF1.1 16 rfl]; exact e1) (by rw [hF1.1 16 rfl]; exact e3) (Or.inl ⟨rfl, rfl, hr1⟩) (fun r ω2 hF2 hnt => ⟨_, rfl, ?_⟩)
      have hR2 : R ω2 := hR1.sc (scP hF2)
      have hF12 : Fr [0, 20, 21, 22, 24] [23, 26] ω ω2 := hF1.trans (hF2.sub (by decide) (by decide))
      refine t176 (x := clB (ω.1 8)) (stp := stB N nb (ω.1 12) (cl (ω.1 14)) (cl (ω.1 15)) (clB (ω.1 8))) hp (hM.fr hF12 ⟨rfl, rfl, rfl, rfl⟩) hm7 ho (hrm.fr hF12 ⟨rfl, rfl⟩) (by rw [hF12.1 31 rfl]; exact hxm) hs hH hW (by rw [hF12.1 29 rfl]; exact e2) (by rw [hF12.1 29 rfl]; exact e4) ha hb (Or.inl ⟨rfl, rfl⟩) (fun r' v ω3 hF3 hnt' ev => ?_)
      rw [if_neg (by decide), if_neg (fun y => absurd y.1 (by decide))] at ev
      rw [ev, NT_uniq ub _ _ _ _ _ _ hnt' hnt]
      exact hQ _ _ (hRs hR2 hF3)
    | 1, _ =>
      by_cases hm0 : m = 0
      · refine vc_86 ω a (nI 1) (br_f ha (br_f (by decide) (br_t (by decide) (br_t rfl (br_t (by rw [hrc.1, hm0]; rfl) ⟨_, rfl, ?_⟩)))))
        refine t176 (x := clB (ω.1 8)) (stp := stR m (ω.1 12) (cl (ω.1 14)) ord tn) hp hM hm7 ho hrm hxm hs hH hW e2 e4 ha hb (Or.inr ⟨by decide, rfl⟩) (fun r' v ω3 hF3 hnt' ev => ?_)
        rw [if_neg (by decide), if_pos ⟨rfl, hm0⟩] at ev
        rw [ev]
        exact hQ _ _ (hRs hR hF3)
      · refine vc_86 ω a (nI 1) (br_f ha (br_f (by decide) (br_t (by decide) (br_t rfl (br_f (by rw [hrc.1]; exact nI_ne0 (by omega) (by omega)) (br_f (by decide) ?_))))))
        refine t121 (x := clB (ω.1 8)) (stp := stR m (ω.1 12) (cl (ω.1 14)) ord tn) hp hc hm7 ho hrc hx hs hH ⟨hW, hWn⟩ e1 e3 (Or.inr ⟨rfl, rfl⟩) (fun r ω2 hF2 hnt => ⟨_, rfl, ?_⟩)
        have hR2 : R ω2 := hR.sc (scP hF2)
        refine t176 (x := clB (ω.1 8)) (stp := stR m (ω.1 12) (cl (ω.1 14)) ord tn) hp (hM.fr hF2 ⟨rfl, rfl, rfl, rfl⟩) hm7 ho (hrm.fr hF2 ⟨rfl, rfl⟩) (by rw [hF2.1 31 rfl]; exact hxm) hs hH hW (by rw [hF2.1 29 rfl]; exact e2) (by rw [hF2.1 29 rfl]; exact e4) ha hb (Or.inr ⟨by decide, rfl⟩) (fun r' v ω3 hF3 hnt' ev => ?_)
        rw [if_neg (by decide), if_neg (fun y => hm0 y.2)] at ev
        rw [ev, NT_uniq ur' _ _ _ _ _ _ hnt' hnt]
        exact hQ _ _ (hRs hR2 hF3)
    | 2, _ =>
      refine vc_86 ω a (nI 2) (br_f ha (br_f (by decide) (br_t (by decide) (br_f (by decide) (br_f (by decide) ?_)))))
      refine t121s (x := clB (ω.1 8)) hx hH e1 ⟨_, rfl, ?_⟩
      refine t176 (x := clB (ω.1 8)) (stp := stR m (ω.1 12) (cl (ω.1 14)) ord tn) hp hM hm7 ho hrm hxm hs hH hW e2 e4 ha hb (Or.inr ⟨by decide, rfl⟩) (fun r' v ω3 hF3 hnt' ev => ?_)
      have z2 : (nI 2 : Int32) = 2 := rfl
      rw [if_pos z2] at ev
      rw [ev]
      exact hQ _ _ (hRs hR hF3)
  · refine vc_86 ω a b ⟨fun _ => ⟨_, rfl, outM ω hab _ (hQ _ _ hR)⟩, fun c => ⟨fun _ => ⟨_, rfl, outM ω hab _ (hQ _ _ hR)⟩, fun c2 => ⟨fun c3 => absurd ⟨c, ?_⟩ hab, fun _ => ⟨_, rfl, outM ω hab _ (hQ _ _ hR)⟩⟩⟩⟩
    rw [vp_in_iff]
    rw [Int32.lt_iff_toInt_lt, Int32.toInt_zero] at c2
    rw [Int32.le_iff_toInt_le] at c3
    have e : (2 : Int32).toInt = 2 := by decide
    omega
