/-! WAYS: sums along the table; pure, then the class -/
def dot (w F : Nat → Int) : Nat → Int
  | 0 => 0
  | j + 1 => dot w F j + w j * F j
def updZ (w : Nat → Int) (k : Nat) (x : Int) : Nat → Int := fun j => if j = k then w j + x else w j
theorem dot_upd {w F : Nat → Int} {k : Nat} {x : Int} : ∀ n, dot (updZ w k x) F n = dot w F n + (if k < n then x * F k else 0)
  | 0 => by rw [if_neg (by omega)]; rfl
  | n + 1 => by
    show dot (updZ w k x) F n + updZ w k x n * F n = dot w F n + w n * F n + _
    rw [dot_upd n]
    unfold updZ
    by_cases c : n = k
    · subst c
      rw [if_pos rfl, if_neg (Nat.lt_irrefl _), if_pos (Nat.lt_succ_self _), Int.add_mul]
      omega
    · rw [if_neg c]
      by_cases d : k < n
      · rw [if_pos d, if_pos (by omega)]
        omega
      · rw [if_neg d, if_neg (by omega)]
        omega
theorem dot_mono {w F G : Nat → Int} : ∀ n, (∀ j, j < n → 0 ≤ w j) → (∀ j, j < n → F j ≤ G j) → dot w F n ≤ dot w G n
  | 0, _, _ => Int.le_refl _
  | n + 1, h1, h2 => by
    have ih := dot_mono n (fun j hj => h1 j (by omega)) (fun j hj => h2 j (by omega))
    have m : w n * F n ≤ w n * G n := Int.mul_le_mul_of_nonneg_left (h2 n (by omega)) (h1 n (by omega))
    show dot w F n + w n * F n ≤ dot w G n + w n * G n
    omega
theorem dot_con {w : Nat → Int} {c : Int} : ∀ n, dot w (fun _ => c) n = c * dot w (fun _ => 1) n
  | 0 => by show (0 : Int) = c * 0; omega
  | n + 1 => by
    show dot w (fun _ => c) n + w n * c = c * (dot w (fun _ => 1) n + w n * 1)
    rw [dot_con n, Int.mul_add, Int.mul_one, Int.mul_comm (w n) c]
theorem dot_nn {w : Nat → Int} : ∀ n, (∀ j, j < n → 0 ≤ w j) → 0 ≤ dot w (fun _ => 1) n ∧ ∀ j, j < n → w j ≤ dot w (fun _ => 1) n
  | 0, _ => ⟨Int.le_refl _, fun j hj => absurd hj (by omega)⟩
  | n + 1, h => by
    obtain ⟨a, b⟩ := dot_nn n (fun j hj => h j (by omega))
    have c := h n (by omega)
    have e : dot w (fun _ => 1) (n + 1) = dot w (fun _ => 1) n + w n := by
      show dot w (fun _ => 1) n + w n * 1 = _
      omega
    rw [e]
    refine ⟨by omega, fun j hj => ?_⟩
    by_cases q : j = n
    · rw [q]; omega
    · have := b j (by omega)
      omega
theorem dot_z {F : Nat → Int} : ∀ n, dot (fun _ => 0) F n = 0
  | 0 => rfl
  | n + 1 => by
    show dot (fun _ => 0) F n + 0 * F n = 0
    rw [dot_z n]
    omega
theorem dot_c {w F G : Nat → Int} : ∀ n, (∀ j, j < n → w j = 0 ∨ F j = G j) → dot w F n = dot w G n
  | 0, _ => rfl
  | n + 1, h => by
    show dot w F n + w n * F n = dot w G n + w n * G n
    rw [dot_c n (fun j hj => h j (by omega))]
    rcases h n (by omega) with q | q
    · rw [q, Int.zero_mul, Int.zero_mul]
    · rw [q]
/-- figures -/
def sF (al : Nat → Bool) (G : Nat → Int) : Nat → Int
  | 0 => 0
  | j + 1 => sF al G j + (if al j = true then G j else 0)
theorem sF_y {al : Nat → Bool} {G : Nat → Int} {j : Nat} (h : al j = true) : sF al G (j + 1) = sF al G j + G j := by
  show sF al G j + (if al j = true then G j else 0) = _
  rw [if_pos h]
theorem sF_n {al : Nat → Bool} {G : Nat → Int} {j : Nat} (h : ¬ al j = true) : sF al G (j + 1) = sF al G j := by
  show sF al G j + (if al j = true then G j else 0) = _
  rw [if_neg h]; omega
/-! the row of the table, all 128 places -/
def Wr (ω : Om) (h : Nat) (w : Nat → Int) : Prop := ∀ V, V < 128 → ω.2 28 (h * 128 + V) = jI (w V)
theorem t60w {ω : Om} {h A : Nat} (hh : h ≤ 6) (hA : A < 128) {v : Int64} {Q : Om → Prop} (q : Q (ul ω 28 (h * 128 + A) (ω.2 28 (h * 128 + A) + v))) : me_CtV 60 [.ref 27, .int (nI h), .int (nI A), .long v] ω Q :=
  vc_60w ω _ _ _ (t58w hh hA (t59w hh hA ⟨rfl, q⟩))
theorem Wr.add {ω : Om} {h A : Nat} {w : Nat → Int} (hr : Wr ω h w) (hA : A < 128) (x : Int) : Wr (ul ω 28 (h * 128 + A) (ω.2 28 (h * 128 + A) + jI x)) h (updZ w A x) := by
  intro V hV
  unfold updZ
  by_cases c : V = A
  · subst c
    rw [ul_s, if_pos rfl, hr V hV, jI_add]
  · rw [ul_n (by omega), if_neg c]
    exact hr V hV
theorem Wr.oth {ω : Om} {h h' A : Nat} {v : Int64} {w : Nat → Int} (hr : Wr ω h' w) (hA : A < 128) (hh : h' ≠ h) : Wr (ul ω 28 (h * 128 + A) v) h' w := by
  intro V hV
  rw [ul_n (by omega)]
  exact hr V hV
def dlt (A : Nat) : Nat → Int := fun V => if V = A then 1 else 0
theorem dot_d {F : Nat → Int} {A : Nat} : ∀ n, dot (dlt A) F n = if A < n then F A else 0
  | 0 => by rw [if_neg (by omega)]; rfl
  | n + 1 => by
    show dot (dlt A) F n + dlt A n * F n = _
    rw [dot_d n]
    unfold dlt
    by_cases c : n = A
    · subst c
      rw [if_pos rfl, if_neg (Nat.lt_irrefl _), if_pos (Nat.lt_succ_self _)]
      omega
    · rw [if_neg c]
      by_cases d : A < n
      · rw [if_pos d, if_pos (by omega)]
        omega
      · rw [if_neg d, if_neg (by omega)]
        omega
theorem dot_dr {w : Nat → Int} {A : Nat} : ∀ n, dot w (dlt A) n = if A < n then w A else 0
  | 0 => by rw [if_neg (by omega)]; rfl
  | n + 1 => by
    show dot w (dlt A) n + w n * dlt A n = _
    rw [dot_dr n]
    unfold dlt
    by_cases c : n = A
    · subst c
      rw [if_pos rfl, if_neg (Nat.lt_irrefl _), if_pos (Nat.lt_succ_self _)]
      omega
    · rw [if_neg c]
      by_cases d : A < n
      · rw [if_pos d, if_pos (by omega)]
        omega
      · rw [if_neg d, if_neg (by omega)]
        omega
/-- the ways begin -/
theorem t116 {ω : Om} {H W : Nat} (hH : H ≤ 6) (hW : W < 128) {Q : Om → Prop} (q : ∀ ω', Fr [] [28] ω ω' → Wr ω' H (dlt W) → (∀ h, H < h → h ≤ 6 → Wr ω' h (fun _ => 0)) → Q ω') : me_CtV 116 [.ref 0, .int (nI H), .int (nI W)] ω Q := by
  have key : ∀ n k ω', k + n = 7 → H ≤ k → Fr [] [28] ω ω' → (∀ h, H ≤ h → h < k → Wr ω' h (fun _ => 0)) → me_W 116 2 [some (.ref 0), some (.int (nI H)), some (.int (nI W)), some (.int (nI k))] [] ω' (fun r ω' => r = none ∧ Q ω') := by
    intro n
    induction n with
    | zero =>
      intro k ω' hk hHk hF hz
      obtain rfl : k = 7 := by omega
      refine vl_116_2 ω' _ _ _ (br_t (by decide) (t59w hH hW ⟨rfl, q _ (Fr.ul hF rfl) (fun V hV => ?_) (fun h h1 h2 => (hz h (by omega) (by omega)).oth hW (by omega))⟩))
      unfold dlt
      by_cases c : V = W
      · subst c
        rw [ul_s, if_pos rfl]
        rfl
      · rw [ul_n (by omega), if_neg c]
        exact hz H (by omega) (by omega) V hV
    | succ n ih =>
      intro k ω' hk hHk hF hz
      refine vl_116_2 ω' _ _ _ (br_f (nI_nlt (b := k) (a := 6) (by omega) (by decide)) (t61w (by omega) (fun ω2 hF2 z1 z2 => ?_)))
      rw [nI_1]
      refine ih (k + 1) ω2 (by omega) (by omega) (hF.trans hF2) (fun h h1 h2 V hV => ?_)
      by_cases c : h = k
      · subst c
        exact z1 V hV
      · rw [z2 _ (by omega)]
        exact hz h h1 (by omega) V hV
  exact vc_116 ω _ _ (key (7 - H) H ω (by omega) (Nat.le_refl _) (Fr.o _ _ ω) (fun h h1 h2 => absurd h1 (by omega)))
/-- a row that may stand: none below zero, none where nobody can be -/
def Okw (N nb : Nat) (w : Nat → Int) : Prop := ∀ V, V < 128 → 0 ≤ w V ∧ (¬ Sup N nb V → w V = 0)
theorem Okw.add {N nb A : Nat} {w : Nat → Int} {x : Int} (h : Okw N nb w) (hx : 0 ≤ x) (hA : Sup N nb A) : Okw N nb (updZ w A x) := by
  intro V hV
  obtain ⟨a, b⟩ := h V hV
  unfold updZ
  by_cases c : V = A
  · rw [if_pos c]
    exact ⟨by omega, fun z => absurd (by rw [c]; exact hA) z⟩
  · rw [if_neg c]
    exact ⟨a, b⟩
noncomputable def stW (nb m : Nat) (kd : Nat → Int32) (sk ord : Nat → Nat) (tn : Int32) (H f W : Nat) : Nat := if f = 0 then W else nxW nb m kd sk ord tn H (f - 1) W
/-- what may come in an hour, and is it the one asked for -/
def alF (ch : Nat → Nat → Bool) (fx : Option (Nat × Nat)) (h f : Nat) : Bool := (f == 0 || ch h (f - 1)) && (match fx with
  | none => true
  | some (h0, f0) => h != h0 || f == f0)
theorem or_spent {ω : Om} {nb W S : Nat} (eb : ω.1 11 5 = nI nb) (hW : W < 128) (hS : S < 128) (hb : nb < 128) : nI W ||| (nI S &&& (ω.1 11 5 ^^^ (-1))) = nI (W ||| dif S nb) := by
  rw [eb, dif_I hS hb, or_nI (by omega) (Nat.lt_trans (dif_lt (n := 7) hS) (by decide))]
theorem t120 {ω : Om} {N nb m : Nat} {kd : Nat → Int32} {sk hm ord : Nat → Nat} {tn : Int32} {ch : Nat → Nat → Bool} (hp : HP N nb kd sk hm) (hc : HC N nb kd sk hm ω) (hm7 : m ≤ 7) (ho : ∀ k, k < m → ord k < N) (hr : RC m ord tn ω) (hch : ∀ h, h < 6 → ∀ t, t < 4 → (¬ ω.1 8 (h * 4 + t) ≤ 0 ↔ ch h t = true)) {h W : Nat} (hh : h < 6) (hS : Sup N nb W) {x : Int} (hx : 0 ≤ x) {fg : Int32} {al : Nat → Bool} (hfg : ∀ f, f < 5 → (al f = true ↔ ((fg = -1 ∨ fg = nI f) ∧ (f = 0 ∨ ch h (f - 1) = true)))) {w : Nat → Int} (hw : Wr ω (h + 1) w) (hok : Okw N nb w) {Q : Om → Prop} (q : ∀ ω' w', Fr [] [28] ω ω' → (∀ i, (i < (h + 1) * 128 ∨ (h + 1) * 128 + 128 ≤ i) → ω'.2 28 i = ω.2 28 i) → Wr ω' (h + 1) w' → Okw N nb w' → (∀ F, dot w' F 128 = dot w F 128 + x * sF al (fun f => F (stW nb m kd sk ord tn h f W)) 5) → Q ω') : me_CtV 120 [.ref 0, .int (nI h), .int (nI W), .long (jI x), .int fg] ω Q := by
  obtain ⟨hN, hnb, hk, hsk, hhm⟩ := id hp
  have h7 := pow7 hN
  have key : ∀ n t ω' w', t + n = 4 → Fr [] [28] ω ω' → (∀ i, (i < (h + 1) * 128 ∨ (h + 1) * 128 + 128 ≤ i) → ω'.2 28 i = ω.2 28 i) → Wr ω' (h + 1) w' → Okw N nb w' → (∀ F, dot w' F 128 = dot w F 128 + x * sF al (fun f => F (stW nb m kd sk ord tn h f W)) (t + 1)) → me_W 120 26 [some (.ref 0), some (.int (nI h)), some (.int (nI W)), some (.long (jI x)), none, some (.int fg), some (.int (nI t)), none] [] ω' (fun r ω' => r = none ∧ Q ω') := by
    intro n
    induction n with
    | zero =>
      intro t ω' w' ht hF ho1 hw1 hok1 hd
      obtain rfl : t = 4 := by omega
      exact vl_120_26 ω' _ _ _ _ _ (br_t (by decide) ⟨rfl, q ω' w' hF ho1 hw1 hok1 hd⟩)
    | succ n ih =>
      intro t ω' w' ht hF ho1 hw1 hok1 hd
      have hfa := hfg (t + 1) (by omega)
      rw [Nat.add_sub_cancel] at hfa
      have skip : ¬ al (t + 1) = true → me_W 120 26 [some (.ref 0), some (.int (nI h)), some (.int (nI W)), some (.long (jI x)), none, some (.int fg), some (.int (nI (t + 1))), none] [] ω' (fun r ω' => r = none ∧ Q ω') := fun z => ih (t + 1) ω' w' (by omega) hF ho1 hw1 hok1 (fun F => by rw [sF_n z]; exact hd F)
      have hct := hch h hh t (by omega)
      have go : (fg = -1 ∨ fg = nI (t + 1)) → me_CtI 2 [.ref 7, .int (nI h), .int (nI t)] ω' (fun v1 ω1 => ((v1 ≤ 0 → me_W 120 26 [some (.ref 0), some (.int (nI h)), some (.int (nI W)), some (.long (jI x)), none, some (.int fg), some (.int (nI (t + 1))), none] [] ω1 (fun r ω' => r = none ∧ Q ω')) ∧ (¬ v1 ≤ 0 → me_CtI 115 [.ref 0, .int (nI h), .int (nI t), .int (nI W)] ω1 (fun v2 ω2 => me_CtI 31 [.ref 11, .int v2] ω2 (fun v3 ω3 => me_CtV 60 [.ref 27, .int (nI (h + 1)), .int (nI W ||| v3), .long (jI x)] ω3 (fun ω4 => me_W 120 26 [some (.ref 0), some (.int (nI h)), some (.int (nI W)), some (.long (jI x)), none, some (.int fg), some (.int (nI (t + 1))), none] [] ω4 (fun r ω' => r = none ∧ Q ω'))))))) := by
        intro hg
        refine t2 (fun a b ha hb ea eb => ?_) (fun z => absurd ⟨vp_in_nI hh (by decide), vp_in_nI (by omega) (by decide)⟩ z)
        obtain rfl : h = a := (nI_eq (by omega) (by omega)).mp ea
        obtain rfl : t = b := (nI_eq (by omega) (by omega)).mp eb
        rw [hF.1 8 rfl]
        refine ⟨fun c => skip (fun z => (hct.mpr ((hfa.mp z).2.resolve_left (by omega))) c), fun c => ?_⟩
        have hal : al (t + 1) = true := hfa.mpr ⟨hg, Or.inr (hct.mp c)⟩
        have hc' : HC N nb kd sk hm ω' := hc.fr hF ⟨rfl, rfl, rfl, rfl⟩
        refine t115 hp hc' hm7 ho (hr.fr hF ⟨rfl, rfl⟩) hh (by omega) hS.1 hS.2 (t31 ?_)
        have hs : ruS (RuP kd (gM kd sk t h) tn h W) ord m 0 < 2 ^ N := ruS_lt m 0 (fun i hi => ho i (by omega))
        have hW := hS.1
        rw [or_spent hc'.2.1 (by omega) (by omega) (by omega)]
        have hsup : Sup N nb (nxW nb m kd sk ord tn h t W) := nxW_sup ho hS
        have hl := hsup.1
        refine t60w (A := nxW nb m kd sk ord tn h t W) (by omega) (by omega) ?_
        refine ih (t + 1) _ _ (by omega) (Fr.ul hF rfl) (fun i hi => ?_) (hw1.add (by omega) x) (hok1.add hx hsup) (fun F => ?_)
        · rw [ul_n (by omega)]; exact ho1 i hi
        · rw [sF_y hal, dot_upd, if_pos (by omega), hd F, Int.mul_add]
          show _ = dot w F 128 + (x * sF al (fun f => F (stW nb m kd sk ord tn h f W)) (t + 1) + x * F (stW nb m kd sk ord tn h (t + 1) W))
          have e : stW nb m kd sk ord tn h (t + 1) W = nxW nb m kd sk ord tn h t W := by
            unfold stW
            rw [if_neg (by omega), Nat.add_sub_cancel]
          rw [e]
          omega
      refine vl_120_26 ω' _ _ _ _ _ (br_f (nI_ge (b := 4) (by omega) (by decide)) ?_)
      rw [nI_1, nI_1]
      refine ⟨fun c => br_f (by decide) (go (Or.inl c)), fun c => ⟨fun c2 => br_f (by decide) (go (Or.inr c2)), fun c2 => br_t rfl (skip (fun z => ?_))⟩⟩
      rcases (hfa.mp z).1 with y | y
      · exact c y
      · exact c2 y
  have h0 := hfg 0 (by omega)
  have e0 : stW nb m kd sk ord tn h 0 W = W := by
    unfold stW
    rw [if_pos rfl]
  have hW := hS.1
  have start0 : ¬ (fg = -1 ∨ fg = nI 0) → me_W 120 26 [some (.ref 0), some (.int (nI h)), some (.int (nI W)), some (.long (jI x)), none, some (.int fg), some (.int (0 : Int32)), none] [] ω (fun r ω' => r = none ∧ Q ω') := fun z => key 4 0 ω w rfl (Fr.o _ _ ω) (fun _ _ => rfl) hw hok (fun F => by
    rw [sF_n (fun y => z (h0.mp y).1)]
    show _ = _ + x * 0
    omega)
  have start1 : (fg = -1 ∨ fg = nI 0) → me_CtV 60 [.ref 27, .int (nI (h + 1)), .int (nI W), .long (jI x)] ω (fun ω1 => me_W 120 26 [some (.ref 0), some (.int (nI h)), some (.int (nI W)), some (.long (jI x)), none, some (.int fg), some (.int (0 : Int32)), none] [] ω1 (fun r ω' => r = none ∧ Q ω')) := fun z => by
    refine t60w (by omega) (by omega) (key 4 0 _ _ rfl (Fr.ul (Fr.o _ _ ω) rfl) (fun i hi => by rw [ul_n (by omega)]) (hw.add (by omega) x) (hok.add hx hS) (fun F => ?_))
    rw [sF_y (h0.mpr ⟨z, Or.inl rfl⟩), dot_upd, if_pos (by omega)]
    show _ = dot w F 128 + x * (0 + F (stW nb m kd sk ord tn h 0 W))
    rw [e0, Int.zero_add]
  refine vc_120 ω _ _ _ _ ?_
  rw [nI_1]
  exact ⟨fun c => start1 (Or.inl c), fun c => ⟨fun c2 => start1 (Or.inr c2), fun c2 => start0 (fun z => z.elim c c2)⟩⟩
