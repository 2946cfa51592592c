/-! KNOWN, the reference -/
def zI (z : Int) : Int32 := Int32.ofInt z
theorem zI_add (a b : Int) : zI a + zI b = zI (a + b) := (Int32.ofInt_add a b).symm
theorem zI_sub (a b : Int) : zI a - zI b = zI (a - b) := (Int32.ofInt_sub a b).symm
theorem zI_n (n : Nat) : nI n = zI (n : Int) := by
  unfold zI nI
  rw [Int32.ofInt_eq_ofNat]
theorem zI_toInt {z : Int} (h1 : -1000000000 < z) (h2 : z < 1000000000) : (zI z).toInt = z := Int32.toInt_ofInt_of_le (by omega) (by omega)
theorem zI_le {a b : Int} (a1 : -1000000000 < a) (a2 : a < 1000000000) (b1 : -1000000000 < b) (b2 : b < 1000000000) : zI a ≤ zI b ↔ a ≤ b := by
  rw [Int32.le_iff_toInt_le, zI_toInt a1 a2, zI_toInt b1 b2]
/-- a row of the reference's table: by who is gone -/
def Rm (ω : Om) (h N : Nat) (f : Nat → Int) : Prop := ∀ W, W < 2 ^ N → ω.1 41 (128 * h + W) = zI (f (dif (2 ^ N - 1) W))
theorem ix768 (a : Nat) : (768 : Int32) + nI a = nI (128 * 6 + a) := by rw [show (768 : Int32) = nI 768 from rfl, nI_add]
theorem t160 {ω : Om} {N nb : Nat} {kd : Nat → Int32} {sk hm : Nat → Nat} (hp : HP N nb kd sk hm) (hc : HM N kd sk hm ω) {H W c : Nat} (hH : H ≤ 6) (hW : W < 2 ^ N) (eH : ω.1 29 16 = nI H) (eW : ω.1 29 17 = nI W) (hcl : c < 5 ^ (6 - H)) {Q : Int32 → Om → Prop} (q : ∀ ω', Fr [41] [] ω ω' → Q (nI (knF N nb kd sk hm (fun h => c / 5 ^ (h - H) % 5) (6 - H) (dif (2 ^ N - 1) W)).toNat) ω') : me_CtI 160 [.ref 29, .int (nI c)] ω Q := by
  obtain ⟨hN, hnb, hk, hsk, hhm⟩ := id hp
  have h7 := pow7 hN
  have hp2 := p2_pos N
  obtain ⟨fig, efig⟩ : ∃ fig : Nat → Nat, fig = fun h => c / 5 ^ (h - H) % 5 := ⟨_, rfl⟩
  rw [← efig] at q
  have hfig : ∀ h, fig h < 5 := fun h => by rw [efig]; exact Nat.mod_lt _ (by decide)
  have fl := five_lt (6 - H) (by omega)
  have hcl2 : c < 2 ^ 31 := by omega
  have bd := knF_bd (N := N) (nb := nb) (kd := kd) (sk := sk) hhm hfig
  -- one place of a row: over the sets
  have k83 : ∀ (h w : Nat) (f : Nat → Int), h < 6 → w < 2 ^ N → (∀ B, B < 2 ^ N → 0 ≤ f B ∧ f B ≤ 1000) → ∀ (th : Int32), (th = -1 ∧ fig h = 0 ∨ th = nI (fig h - 1) ∧ ¬ fig h = 0) → ∀ (m : Int), m = (if fig h = 0 then f (dif (2 ^ N - 1) w) else mxA N nb kd sk hm 1 f h (fig h - 1) (dif (2 ^ N - 1) w)) → ∀ (ω' : Om), HM N kd sk hm ω' → Rm ω' (h + 1) N f → (me_W 160 52 [some (.ref 29), some (.int (nI c)), some (.int (nI h)), some (.int th), some (.int (nI (w + 1))), none, none, none] [] (ui ω' 41 (128 * h + w) (zI m)) (fun r ω' => ∃ v : Int32, r = some (.int v) ∧ Q v ω')) → ∀ n j (x : Int), j + n = 2 ^ N → x = (if fig h = 0 then f (dif (2 ^ N - 1) w) else mxU (Alw kd h (dif (2 ^ N - 1) w)) (vA N nb (hm (fig h - 1)) (gM kd sk (fig h - 1) h) 1 f (dif (2 ^ N - 1) w)) j) → me_W 160 83 [some (.ref 29), some (.int (nI c)), some (.int (nI h)), some (.int th), some (.int (nI w)), some (.int (zI x)), some (.int (nI j)), none] [] ω' (fun r ω' => ∃ v : Int32, r = some (.int v) ∧ Q v ω') := by
    intro h w f hh hw hbf th hth m em ω' hc' hr next n
    have e15 : ω'.1 29 15 = nI N := hc'.1
    have hfh := hfig h
    have hdw : dif (2 ^ N - 1) w < 2 ^ N := dif_lt (E_lt N)
    induction n with
    | zero =>
      intro j x hj ex
      obtain rfl : j = 2 ^ N := by omega
      refine vl_160_83 ω' _ _ _ _ _ _ ?_
      rw [e15, sh2 N hN, ix128', nI_clamp (by omega), nI_1 w]
      refine br_t (Int32.le_refl _) ⟨vp_in_nI (by omega) (by decide), ?_⟩
      have : x = m := by rw [ex, em]; rfl
      rw [this]
      exact next
    | succ n ih =>
      intro j x hj ex
      refine vl_160_83 ω' _ _ _ _ _ _ ?_
      rw [e15, sh2 N hN, nI_1 j]
      refine br_f (nI_ge (by omega) (by omega)) ?_
      rcases hth with ⟨t1, t2⟩ | ⟨t1, t2⟩
      · refine br_t t1 (ih (j + 1) x (by omega) ?_)
        rw [ex, if_pos t2, if_pos t2]
      · rw [t1]
        rw [t1] at ih
        refine br_f (m1_ne (by omega)) (t144 ?_)
        rw [on_cn j (by omega)]
        have bx : ∀ i, 0 ≤ mxU (Alw kd h (dif (2 ^ N - 1) w)) (vA N nb (hm (fig h - 1)) (gM kd sk (fig h - 1) h) 1 f (dif (2 ^ N - 1) w)) i ∧ mxU (Alw kd h (dif (2 ^ N - 1) w)) (vA N nb (hm (fig h - 1)) (gM kd sk (fig h - 1) h) 1 f (dif (2 ^ N - 1) w)) i ≤ 1100 := by
          intro i
          have g1 := (mxU_ge (P := Alw kd h (dif (2 ^ N - 1) w)) (V := vA N nb (hm (fig h - 1)) (gM kd sk (fig h - 1) h) 1 f (dif (2 ^ N - 1) w)) i).1
          obtain ⟨S, -, e⟩ := mxU_at (P := Alw kd h (dif (2 ^ N - 1) w)) (V := vA N nb (hm (fig h - 1)) (gM kd sk (fig h - 1) h) 1 f (dif (2 ^ N - 1) w)) i
          have b0 := hbf _ hdw
          have b1 := hbf (dif (dif (2 ^ N - 1) w) (dif S nb)) (dif_lt hdw)
          have m1 := mnd_le N (hm (fig h - 1)) (gM kd sk (fig h - 1) h) S
          have m2 := hhm (fig h - 1) (by omega)
          have ev0 : vA N nb (hm (fig h - 1)) (gM kd sk (fig h - 1) h) 1 f (dif (2 ^ N - 1) w) S = (mnd N (hm (fig h - 1)) (gM kd sk (fig h - 1) h) S : Int) * 1 + f (dif (dif (2 ^ N - 1) w) (dif S nb)) := rfl
          rw [vA_0] at g1
          rw [ev0] at e
          omega
        rw [if_neg t2] at ex
        have skip : ¬ Alw kd h (dif (2 ^ N - 1) w) j → me_W 160 83 [some (.ref 29), some (.int (nI c)), some (.int (nI h)), some (.int (nI (fig h - 1))), some (.int (nI w)), some (.int (zI x)), some (.int (nI (j + 1))), none] [] ω' (fun r ω' => ∃ v : Int32, r = some (.int v) ∧ Q v ω') := fun z => ih (j + 1) x (by omega) (by rw [if_neg t2, mxU_out (fun y => z y.1)]; exact ex)
        have hal := Al_alw (kd := kd) (H := h) (W := w) (S := j) hN (by omega)
        refine ⟨fun c3 => skip (fun z => ?_), fun c3 => ?_⟩
        · have := (nI_leI (a := 3) (by decide) (by have := cn_le j; omega)).mp c3
          have := z.1
          omega
        · have c3' : cn j ≤ 2 := by
            by_cases y : cn j ≤ 2
            · exact y
            · exact absurd (nI_le (a := 3) (by omega) (by have := cn_le j; omega)) c3
          have e35 : ∀ s, s < 7 → ω'.1 35 s = kd s := hc'.2.1
          have hal2 : Al (ω'.1 35) j w h ↔ Al kd j w h := by
            unfold Al
            constructor
            · intro z s hs hb
              rw [← e35 s hs]; exact z s hs hb
            · intro z s hs hb
              rw [e35 s hs]; exact z s hs hb
          refine t145 hN e15 (by omega) hh (by omega) (fun z => br_f (by decide) ?_) (fun z => br_t rfl (skip (fun y => z (hal2.mpr (hal.mpr y).1))))
          have hA : Alw kd h (dif (2 ^ N - 1) w) j := hal.mp ⟨hal2.mp z, c3'⟩
          have egn : gn (ω'.1 35) j w N = gn kd j w N := by
            refine Nat.eq_of_testBit_eq (fun i => ?_)
            rw [gn_bit, gn_bit]
            by_cases y : i < N
            · rw [e35 i (by omega)]
            · simp [y]
          have hg : gn kd j w N < 2 ^ N := gn_lt2 (by omega) hw hk
          refine t146N hp hc' (by omega) (by omega) hh (t147 hN e15 (by omega) (by omega) ?_)
          rw [egn, nI_1 h, ix128', nI_clamp (by omega), hr _ hg, gn_dif (by omega) hk, zI_n (mnd N (hm (fig h - 1)) (gM kd sk (fig h - 1) h) j), zI_add]
          have ev : ((mnd N (hm (fig h - 1)) (gM kd sk (fig h - 1) h) j : Nat) : Int) + f (dif (dif (2 ^ N - 1) w) (dif j nb)) = vA N nb (hm (fig h - 1)) (gM kd sk (fig h - 1) h) 1 f (dif (2 ^ N - 1) w) j := by
            unfold vA
            omega
          rw [ev]
          have bj := bx j
          have bv : 0 ≤ vA N nb (hm (fig h - 1)) (gM kd sk (fig h - 1) h) 1 f (dif (2 ^ N - 1) w) j ∧ vA N nb (hm (fig h - 1)) (gM kd sk (fig h - 1) h) 1 f (dif (2 ^ N - 1) w) j ≤ 1100 := by
            have b1 := hbf (dif (dif (2 ^ N - 1) w) (dif j nb)) (dif_lt hdw)
            have m1 := mnd_le N (hm (fig h - 1)) (gM kd sk (fig h - 1) h) j
            have m2 := hhm (fig h - 1) (by omega)
            rw [← ev]
            omega
          rw [← ex] at bj
          refine ⟨vp_in_nI (by omega) (by decide), fun y => ih (j + 1) x (by omega) ?_, fun y => ih (j + 1) _ (by omega) ?_⟩
          · have := (zI_le (by omega) (by omega) (by omega) (by omega)).mp y
            rw [if_neg t2, mxU_out (fun y => by omega)]
            exact ex
          · have : x < vA N nb (hm (fig h - 1)) (gM kd sk (fig h - 1) h) 1 f (dif (2 ^ N - 1) w) j := by
              by_cases u : x < vA N nb (hm (fig h - 1)) (gM kd sk (fig h - 1) h) 1 f (dif (2 ^ N - 1) w) j
              · exact u
              · exact absurd ((zI_le (by omega) (by omega) (by omega) (by omega)).mpr (by omega)) y
            rw [if_neg t2, mxU_in ⟨hA, by rw [← ex]; exact this⟩]
  -- a row: over who is gone
  have k52 : ∀ (h : Nat) (f f' : Nat → Int), h < 6 → H ≤ h → (∀ B, B < 2 ^ N → 0 ≤ f B ∧ f B ≤ 1000) → (∀ A, f' A = if fig h = 0 then f A else mxA N nb kd sk hm 1 f h (fig h - 1) A) → (∀ ω', Fr [41] [] ω ω' → Rm ω' h N f' → me_W 160 28 [some (.ref 29), some (.int (nI c)), some (.int (nI h + (-1 : Int32))), none, none, none, none, none] [] ω' (fun r ω' => ∃ v : Int32, r = some (.int v) ∧ Q v ω')) → ∀ (th : Int32), (th = -1 ∧ fig h = 0 ∨ th = nI (fig h - 1) ∧ ¬ fig h = 0) → ∀ n w ω', w + n = 2 ^ N → Fr [41] [] ω ω' → Rm ω' (h + 1) N f → (∀ V, V < w → ω'.1 41 (128 * h + V) = zI (f' (dif (2 ^ N - 1) V))) → me_W 160 52 [some (.ref 29), some (.int (nI c)), some (.int (nI h)), some (.int th), some (.int (nI w)), none, none, none] [] ω' (fun r ω' => ∃ v : Int32, r = some (.int v) ∧ Q v ω') := by
    intro h f f' hh hHh hbf ef' next th hth n
    induction n with
    | zero =>
      intro w ω' hw hF hr h1
      obtain rfl : w = 2 ^ N := by omega
      have e15 : ω'.1 29 15 = nI N := by rw [hF.1 29 rfl]; exact hc.1
      refine vl_160_52 ω' _ _ _ _ ?_
      rw [e15, sh2 N hN]
      exact br_t (Int32.le_refl _) (next ω' hF h1)
    | succ n ih =>
      intro w ω' hw hF hr h1
      have hc' : HM N kd sk hm ω' := hc.fr hF ⟨rfl, rfl, rfl, rfl⟩
      refine vl_160_52 ω' _ _ _ _ ?_
      rw [hc'.1, sh2 N hN, nI_1 h, ix128', nI_clamp (by omega), hr w (by omega)]
      refine br_f (nI_ge (by omega) (by omega)) ⟨vp_in_nI (by omega) (by decide), ?_⟩
      refine k83 h w f hh (by omega) hbf th hth _ rfl ω' hc' hr ?_ (2 ^ N) 0 _ (by omega) ?_
      · refine ih (w + 1) _ (by omega) (Fr.ui hF rfl) (fun V hV => ?_) (fun V hV => ?_)
        · rw [ui_n (by omega)]; exact hr V hV
        · by_cases z : V = w
          · subst z
            rw [ui_s, ← ef']
          · rw [ui_n (by omega)]; exact h1 V (by omega)
      · by_cases z : fig h = 0
        · rw [if_pos z]
        · rw [if_neg z]
          show _ = vA N nb (hm (fig h - 1)) (gM kd sk (fig h - 1) h) 1 f (dif (2 ^ N - 1) w) 0
          rw [vA_0]
  have k28 : ∀ n k ω', H + n = k → k ≤ 6 → Fr [41] [] ω ω' → Rm ω' k N (knF N nb kd sk hm fig (6 - k)) → me_W 160 28 [some (.ref 29), some (.int (nI c)), some (.int (nI k + (-1 : Int32))), none, none, none, none, none] [] ω' (fun r ω' => ∃ v : Int32, r = some (.int v) ∧ Q v ω') := by
    intro n
    induction n with
    | zero =>
      intro k ω' hn hk6 hF hr
      obtain rfl : H = k := by omega
      have e1 : ω'.1 29 16 = nI H := by rw [hF.1 29 rfl]; exact eH
      have e2 : ω'.1 29 17 = nI W := by rw [hF.1 29 rfl]; exact eW
      have hd : dif (2 ^ N - 1) W < 2 ^ N := dif_lt (E_lt N)
      have b := bd (6 - H) _ hd
      refine vl_160_28 ω' _ _ ?_
      rw [e1, e2, ix128', nI_clamp (by omega), hr W hW]
      refine br_t (m1_lt H (by omega)) ⟨vp_in_nI (by omega) (by decide), _, rfl, ?_⟩
      have ez : knF N nb kd sk hm fig (6 - H) (dif (2 ^ N - 1) W) = ((knF N nb kd sk hm fig (6 - H) (dif (2 ^ N - 1) W)).toNat : Int) := by omega
      rw [ez, ← zI_n]
      exact q ω' hF
    | succ n ih =>
      intro k ω' hn hk6 hF hr
      obtain ⟨h, rfl⟩ : ∃ h, k = h + 1 := ⟨k - 1, by omega⟩
      have e1 : ω'.1 29 16 = nI H := by rw [hF.1 29 rfl]; exact eH
      have ek : ∀ A, knF N nb kd sk hm fig (6 - h) A = if fig h = 0 then knF N nb kd sk hm fig (6 - (h + 1)) A else mxA N nb kd sk hm 1 (knF N nb kd sk hm fig (6 - (h + 1))) h (fig h - 1) A := by
        intro A
        rw [show 6 - h = (6 - (h + 1)) + 1 by omega]
        show (if fig (5 - (6 - (h + 1))) = 0 then _ else _) = _
        rw [show 5 - (6 - (h + 1)) = h by omega]
      refine vl_160_28 ω' _ _ ?_
      rw [e1, pk_m1]
      refine br_f (nI_nlt (by omega) (by omega)) ?_
      rw [pk_sub (by omega)]
      refine t159 hcl2 (by omega) ?_
      have ef : c / 5 ^ (h - H) % 5 = fig h := by rw [efig]
      have hfh := hfig h
      rw [ef]
      refine k52 h (knF N nb kd sk hm fig (6 - (h + 1))) (knF N nb kd sk hm fig (6 - h)) (by omega) (by omega) (fun B hB => by have := bd (6 - (h + 1)) B hB; omega) ek (fun ω2 hF2 hr2 => ih h ω2 (by omega) (by omega) hF2 hr2) _ ?_ (2 ^ N) 0 ω' (by omega) hF hr (fun V hV => absurd hV (by omega))
      by_cases z : fig h = 0
      · left
        rw [z]
        exact ⟨by decide, rfl⟩
      · right
        rw [show (1 : Int32) = nI 1 from rfl, pk_sub (by omega)]
        exact ⟨rfl, z⟩
  have k2 : ∀ n j ω', j + n = 128 → Fr [41] [] ω ω' → (∀ V, V < j → ω'.1 41 (128 * 6 + V) = 0) → me_W 160 2 [some (.ref 29), some (.int (nI c)), some (.int (nI j)), none, none, none, none, none] [] ω' (fun r ω' => ∃ v : Int32, r = some (.int v) ∧ Q v ω') := by
    intro n
    induction n with
    | zero =>
      intro j ω' hj hF h1
      obtain rfl : j = 128 := by omega
      refine vl_160_2 ω' _ _ (br_t (by decide) ?_)
      rw [m1_5]
      refine k28 (6 - H) 6 ω' (by omega) (by omega) hF (fun V hV => ?_)
      rw [h1 V (by omega)]
      rfl
    | succ n ih =>
      intro j ω' hj hF h1
      refine vl_160_2 ω' _ _ (br_f (nI_ge (b := 128) (by omega) (by decide)) ?_)
      rw [ix768, nI_clamp (by omega), nI_1]
      refine ⟨vp_in_nI (by omega) (by decide), ih (j + 1) _ (by omega) (Fr.ui hF rfl) (fun V hV => ?_)⟩
      by_cases z : V = j
      · subst z; exact ui_s
      · rw [ui_n (by omega)]; exact h1 V (by omega)
  exact vc_160 ω _ (k2 128 0 ω (by omega) (Fr.o _ _ ω) (fun V hV => absurd hV (by omega)))
theorem q_80a {ω : Om} (hR : R ω) (a : Int32) : Pr 80 [.ref 0, .int a] 162 [.ref 29, .int a] ω := by
  intro Q hQ
  obtain ⟨N, nb, H, W, kd, sk, hm, hp, hc, hM, hH, hW, hWn, e1, e2, e3, e4⟩ := hR.house
  have fl := five_lt (6 - H) (by omega)
  have e5 : ((nI (5 ^ (6 - H)) - (1 : Int32)).toInt64).toInt = ((5 ^ (6 - H) : Nat) : Int) - 1 := by
    rw [Int32.toInt_toInt64, show (1 : Int32) = nI 1 from rfl, pk_sub (by omega), nI_toInt (by omega)]
    omega
  have mod : ∀ (ω' : Om), ω'.1 29 16 = nI H → ∀ X : Int32 → Om → Prop, (vp_in a (5 ^ (6 - H)) → me_CtI 160 [.ref 29, .int a] ω' (fun v3 ω3 => ∃ v : Int32, some (Value.int v3) = some (.int v) ∧ X v ω3)) → (¬ vp_in a (5 ^ (6 - H)) → X (-102) ω') → me_CtI 162 [.ref 29, .int a] ω' X := by
    intro ω' e X x1 x0
    refine vc_162 ω' a ?_
    rw [e, show (6 : Int32) = nI 6 from rfl, pk_sub hH]
    exact t161 (by omega) (t123n (5 ^ (6 - H)) (by decide) e5 (fun v => br_f (by decide) (x1 v)) (fun v => br_t rfl ⟨_, rfl, x0 v⟩))
  by_cases v : vp_in a (5 ^ (6 - H))
  · obtain ⟨c, hcl, rfl⟩ := vp_in_of v fl.2
    refine t80 hp hc hH hW e1 e3 hcl (fun ω1 hF1 => ?_)
    have e2' : ω1.1 29 16 = nI H := by rw [hF1.1 29 rfl]; exact e2
    have e4' : ω1.1 29 17 = nI W := by rw [hF1.1 29 rfl]; exact e4
    refine mod ω1 e2' _ (fun _ => t160 hp (hM.fr hF1 ⟨rfl, rfl, rfl, rfl⟩) hH hW e2' e4' hcl (fun ω2 hF2 => ⟨_, rfl, hQ _ _ ?_⟩)) (fun z => absurd v z)
    have s1 : Sc ω ω1 := hF1.sc (by
      intro i hi k
      simp only [List.mem_cons, List.not_mem_nil, or_false] at hi
      rcases hi with rfl | rfl | rfl | rfl <;> rfl)
    have s2 : Sc ω1 ω2 := hF2.sc (by
      intro i hi k
      simp only [List.mem_cons, List.not_mem_nil, or_false] at hi
      subst hi
      rfl)
    exact (hR.sc s1).sc s2
  · exact t80o hH e1 v (mod ω e2 _ (fun z => absurd z v) (fun _ => hQ _ _ hR))
