/-! BYRULE: the reference backward; both -/
def RG (c : Nat) (ω : Om) (h N : Nat) (f : Nat → Int) : Prop := ∀ W, W < 2 ^ N → ω.2 c (128 * h + W) = jI (f W)
theorem t164 {ω : Om} {N nb m : Nat} {kd : Nat → Int32} {sk hm ord x : Nat → Nat} {tn : Int32} (hp : HP N nb kd sk hm) (hc : HM N kd sk hm ω) (hm7 : m ≤ 7) (ho : ∀ k, k < m → ord k < N) (hr : RM m ord tn ω) (hx : ∀ k, k < 24 → ω.1 31 k = nI (x k)) (hs : ∀ h, s4 x h ≤ 10) {H W : Nat} (hH : H ≤ 6) (hW : W < 2 ^ N) (eH : ω.1 29 16 = nI H) (eW : ω.1 29 17 = nI W) {p : Int32} {Q : Int64 → Om → Prop} (q : ∀ ω', Fr [] [39, 40, 42] ω ω' → Q (jI (frN (rlF N nb m kd sk hm ord tn x (6 - H) W).toNat (10 ^ (6 - H)) p : Int)) ω') : me_CtJ 164 [.ref 29, .int p] ω Q := by
  obtain ⟨hN, hnb, hk, hsk, hhm⟩ := id hp
  have h7 := pow7 hN
  have hp2 := p2_pos N
  have x10 := s4_x hs
  obtain ⟨F, eF⟩ : ∃ F, F = rlF N nb m kd sk hm ord tn x := ⟨_, rfl⟩
  rw [← eF] at q
  have eFs : ∀ h, h < 6 → ∀ w, F (6 - h) w = sT x h (fun t => (mdd N m kd sk hm ord tn h t w : Int) * (10 : Int) ^ (5 - h) + F (6 - (h + 1)) (nxW nb m kd sk ord tn h t w)) 4 + ((10 - s4 x h : Nat) : Int) * F (6 - (h + 1)) w := by
    intro h hh w
    rw [sT_lin, eF, rlF_s hh]
    show (10 : Int) ^ (5 - h) * mH N m kd sk hm ord tn x h w + (sT x h (fun t => rlF N nb m kd sk hm ord tn x (6 - (h + 1)) (nxW nb m kd sk ord tn h t w)) 4 + ((10 - s4 x h : Nat) : Int) * rlF N nb m kd sk hm ord tn x (6 - (h + 1)) w) = (10 : Int) ^ (5 - h) * mH N m kd sk hm ord tn x h w + sT x h (fun t => rlF N nb m kd sk hm ord tn x (6 - (h + 1)) (nxW nb m kd sk ord tn h t w)) 4 + ((10 - s4 x h : Nat) : Int) * rlF N nb m kd sk hm ord tn x (6 - (h + 1)) w
    omega
  have bd : ∀ n, n ≤ 6 → ∀ W, 0 ≤ F n W ∧ F n W ≤ 1000000000 := fun n hn W => by
    rw [eF]
    have a := rlF_bd (N := N) (nb := nb) (m := m) (kd := kd) (sk := sk) (ord := ord) (tn := tn) hhm hs n hn W
    have b := hiB_le n hn
    omega
  refine vc_164 ω p (t151 (x := x) hp hc hx hs (fun ω0 hF0 hpw0 _ => ?_))
  have hF0' : Fr [] [39, 40, 42] ω ω0 := hF0.sub (by decide) (by decide)
  -- one place
  have k58 : ∀ (h w : Nat), h < 6 → w < 2 ^ N → ∀ (ω' : Om), Fr [] [39, 40, 42] ω ω' → (∀ k, k < 7 → ω'.2 40 k = jI (10 ^ k)) → RG 42 ω' (h + 1) N (F (6 - (h + 1))) → (me_W 164 38 [some (.ref 29), some (.int p), some (.int (nI h)), some (.int (nI (w + 1))), none, none, none, none, none, none] [] (ul ω' 42 (128 * h + w) (jI (F (6 - h) w))) (fun r ω' => ∃ v : Int64, r = some (.long v) ∧ Q v ω')) → ∀ n t, t + n = 4 → me_W 164 58 [some (.ref 29), some (.int p), some (.int (nI h)), some (.int (nI w)), some (.long (jI (sT x h (fun t => (mdd N m kd sk hm ord tn h t w : Int) * (10 : Int) ^ (5 - h) + F (6 - (h + 1)) (nxW nb m kd sk ord tn h t w)) t))), none, some (.int (nI (10 - sx x h t))), some (.int (nI t)), none, none] [] ω' (fun r ω' => ∃ v : Int64, r = some (.long v) ∧ Q v ω') := by
    intro h w hh hw ω' hF hpw hrr next n
    have hc' : HM N kd sk hm ω' := hc.fr hF ⟨rfl, rfl, rfl, rfl⟩
    have hsh := hs h
    induction n with
    | zero =>
      intro t ht
      obtain rfl : t = 4 := by omega
      refine vl_164_58 ω' _ _ _ _ _ _ ?_
      rw [nI_1 h, nI_1 w, ix128', ix128', nI_clamp (by omega : 128 * (h + 1) + w < 2 ^ 31), nI_clamp (by omega : 128 * h + w < 2 ^ 31), hrr w hw, sx_4, nI_J (by omega), jI_mul, jI_add, ← eFs h hh]
      exact br_t (by decide) ⟨vp_in_nI (by omega) (by decide), vp_in_nI (by omega) (by decide), next⟩
    | succ n ih =>
      intro t ht
      have i1 := ih (t + 1) (by omega)
      have sl1 := sx_le x h (t + 1) (by omega)
      have es : sx x h (t + 1) = sx x h t + x (4 * h + t) := rfl
      have eT : ∀ G, sT x h G (t + 1) = sT x h G t + (x (4 * h + t) : Int) * G t := fun _ => rfl
      have ex : ω'.1 31 (4 * h + t) = nI (x (4 * h + t)) := by rw [hF.1 31 rfl]; exact hx _ (by omega)
      have xl := x10 (4 * h + t)
      have hsl : ruS (RuP kd (gM kd sk t h) tn h w) ord m 0 < 2 ^ N := ruS_lt m 0 (fun i hi => ho i (by omega))
      have e35 : ∀ s, s < 7 → ω'.1 35 s = kd s := hc'.2.1
      have egn : gn (ω'.1 35) (ruS (RuP kd (gM kd sk t h) tn h w) ord m 0) w N = nxW nb m kd sk ord tn h t w := by
        rw [gn_kd (k' := kd) (fun s hs => e35 s (by omega)), gn_eq hsl hk]
        rfl
      have hl : nxW nb m kd sk ord tn h t w < 2 ^ N := Nat.or_lt_two_pow hw (dif_lt hsl)
      have mle := mnd_le N (hm t) (gM kd sk t h) (ruS (RuP kd (gM kd sk t h) tn h w) ord m 0)
      have hm1 := hhm t (by omega)
      refine vl_164_58 ω' _ _ _ _ _ _ ?_
      rw [nI_1 t, ix4', nI_clamp (by omega : 4 * h + t < 2 ^ 31), ex]
      refine br_f (nI_ge (b := 4) (by omega) (by decide)) ⟨vp_in_nI (by omega) (by decide), t163 hp hc' hm7 ho (hr.fr hF ⟨rfl, rfl⟩) hh (by omega) hw (t146N hp hc' (by omega) (by omega) hh ?_)⟩
      rw [ix5 hh, nI_clamp (by omega : 5 - h < 2 ^ 31), hpw _ (by omega)]
      refine ⟨vp_in_nI (by omega) (by decide), t147 hN hc'.1 (by omega) (by omega) ?_⟩
      rw [egn, nI_1 h, ix128', nI_clamp (by omega : 128 * (h + 1) + nxW nb m kd sk ord tn h t w < 2 ^ 31), hrr _ hl, nI_J (by omega : mnd N (hm t) (gM kd sk t h) (ruS (RuP kd (gM kd sk t h) tn h w) ord m 0) < 2 ^ 31), nI_J (by omega : x (4 * h + t) < 2 ^ 31), jI_mul, jI_add, jI_mul, jI_add, pk_sub (by omega)]
      refine ⟨vp_in_nI (by omega) (by decide), ?_⟩
      rw [show 10 - sx x h t - x (4 * h + t) = 10 - sx x h (t + 1) by omega]
      exact i1
  have k38 : ∀ (h : Nat), h < 6 → (∀ ω', Fr [] [39, 40, 42] ω ω' → (∀ k, k < 7 → ω'.2 40 k = jI (10 ^ k)) → (∀ h', h ≤ h' → h' ≤ 6 → RG 42 ω' h' N (F (6 - h'))) → me_W 164 32 [some (.ref 29), some (.int p), some (.int (nI h + (-1 : Int32))), none, none, none, none, none, none, none] [] ω' (fun r ω' => ∃ v : Int64, r = some (.long v) ∧ Q v ω')) → ∀ n w ω', w + n = 2 ^ N → Fr [] [39, 40, 42] ω ω' → (∀ k, k < 7 → ω'.2 40 k = jI (10 ^ k)) → (∀ h', h + 1 ≤ h' → h' ≤ 6 → RG 42 ω' h' N (F (6 - h'))) → (∀ V, V < w → ω'.2 42 (128 * h + V) = jI (F (6 - h) V)) → me_W 164 38 [some (.ref 29), some (.int p), some (.int (nI h)), some (.int (nI w)), none, none, none, none, none, none] [] ω' (fun r ω' => ∃ v : Int64, r = some (.long v) ∧ Q v ω') := by
    intro h hh next n
    induction n with
    | zero =>
      intro w ω' hw hF hpw hrr h1
      obtain rfl : w = 2 ^ N := by omega
      have e15 : ω'.1 29 15 = nI N := by rw [hF.1 29 rfl]; exact hc.1
      refine vl_164_38 ω' _ _ _ ?_
      rw [e15, sh2 N hN]
      refine br_t (Int32.le_refl _) (next ω' hF hpw (fun h' a b => ?_))
      by_cases z : h' = h
      · subst z; exact h1
      · exact hrr h' (by omega) b
    | succ n ih =>
      intro w ω' hw hF hpw hrr h1
      have e15 : ω'.1 29 15 = nI N := by rw [hF.1 29 rfl]; exact hc.1
      refine vl_164_38 ω' _ _ _ ?_
      rw [e15, sh2 N hN]
      refine br_f (nI_ge (by omega) (by omega)) ?_
      refine k58 h w hh (by omega) ω' hF hpw (hrr (h + 1) (by omega) (by omega)) ?_ 4 0 rfl
      refine ih (w + 1) _ (by omega) (Fr.ul hF rfl) (fun k hk7 => hpw k hk7) (fun h' a b V hV => ?_) (fun V hV => ?_)
      · rw [ul_n (by omega)]; exact hrr h' a b V hV
      · by_cases z : V = w
        · subst z; exact ul_s
        · rw [ul_n (by omega)]; exact h1 V (by omega)
  have tp : ∀ k, k < 7 → ((10 : Int) ^ k = ((10 ^ k : Nat) : Int)) ∧ 0 < 10 ^ k ∧ 10 ^ k < 2 ^ 40 := by decide
  have k32 : ∀ n k ω', k = n → k ≤ 6 → Fr [] [39, 40, 42] ω ω' → (∀ k, k < 7 → ω'.2 40 k = jI (10 ^ k)) → (∀ h', k ≤ h' → h' ≤ 6 → RG 42 ω' h' N (F (6 - h'))) → me_W 164 32 [some (.ref 29), some (.int p), some (.int (nI k + (-1 : Int32))), none, none, none, none, none, none, none] [] ω' (fun r ω' => ∃ v : Int64, r = some (.long v) ∧ Q v ω') := by
    intro n
    induction n with
    | zero =>
      intro k ω' hn hk6 hF hpw hrr
      obtain rfl : k = 0 := hn
      have e1 : ω'.1 29 16 = nI H := by rw [hF.1 29 rfl]; exact eH
      have e2 : ω'.1 29 17 = nI W := by rw [hF.1 29 rfl]; exact eW
      have b := bd (6 - H) (by omega) W
      have en : F (6 - H) W = ((F (6 - H) W).toNat : Int) := by omega
      have tk := tp (6 - H) (by omega)
      refine vl_164_32 ω' _ _ (br_t (by decide) ?_)
      rw [e1, e2, ix128', nI_clamp (by omega : 128 * H + W < 2 ^ 31), hrr H (by omega) hH W hW, show (6 : Int32) = nI 6 from rfl, pk_sub hH, nI_clamp (by omega : 6 - H < 2 ^ 31), hpw _ (by omega), en, tk.1]
      exact ⟨vp_in_nI (by omega) (by decide), vp_in_nI (by omega) (by decide), t152 (by omega) tk.2.1 tk.2.2 ⟨_, rfl, q ω' hF⟩⟩
    | succ n ih =>
      intro k ω' hn hk6 hF hpw hrr
      obtain rfl : k = n + 1 := hn
      refine vl_164_32 ω' _ _ ?_
      rw [pk_m1]
      refine br_f (nI_pos (by omega)) ?_
      exact k38 n (by omega) (fun ω2 hF2 hpw2 hr2 => ih n ω2 rfl (by omega) hF2 hpw2 hr2) (2 ^ N) 0 ω' (by omega) hF hpw hrr (fun V hV => absurd hV (by omega))
  have k6 : ∀ n j ω', j + n = 128 → Fr [] [39, 40, 42] ω ω' → (∀ k, k < 7 → ω'.2 40 k = jI (10 ^ k)) → (∀ V, V < j → ω'.2 42 (128 * 6 + V) = 0) → me_W 164 6 [some (.ref 29), some (.int p), some (.int (nI j)), none, none, none, none, none, none, none] [] ω' (fun r ω' => ∃ v : Int64, r = some (.long v) ∧ Q v ω') := by
    intro n
    induction n with
    | zero =>
      intro j ω' hj hF hpw h1
      obtain rfl : j = 128 := by omega
      refine vl_164_6 ω' _ _ (br_t (by decide) ?_)
      rw [m1_5]
      refine k32 6 6 ω' rfl (by omega) hF hpw (fun h' a b V hV => ?_)
      obtain rfl : h' = 6 := by omega
      rw [h1 V (by omega), eF]
      rfl
    | succ n ih =>
      intro j ω' hj hF hpw h1
      refine vl_164_6 ω' _ _ (br_f (nI_ge (b := 128) (by omega) (by decide)) ?_)
      rw [ix768, nI_clamp (by omega), nI_1]
      refine ⟨vp_in_nI (by omega) (by decide), ih (j + 1) _ (by omega) (Fr.ul hF rfl) (fun k hk7 => hpw k hk7) (fun V hV => ?_)⟩
      by_cases z : V = j
      · subst z; exact ul_s
      · rw [ul_n (by omega)]; exact h1 V (by omega)
  exact k6 128 0 ω0 (by omega) hF0' hpw0 (fun V hV => absurd hV (by omega))
/-- a pair of calls that answer alike, longs -/
def PrL (y : Nat) (a : List Value) (z : Nat) (b : List Value) (ω : Om) : Prop := ∀ Q : Int64 → Int64 → Om → Prop, (∀ v ω', R ω' → Q v v ω') → me_CtJ y a ω (fun v ω1 => me_CtJ z b ω1 (fun u ω2 => Q v u ω2))
theorem q_81a {ω : Om} (hR : R ω) (a : Int32) : PrL 81 [.ref 0, .int a] 165 [.ref 29, .int a] ω := by
  intro Q hQ
  obtain ⟨N, nb, H, W, kd, sk, hm, hp, hc, hM, hH, hW, hWn, e1, e2, e3, e4⟩ := hR.house
  obtain ⟨hN, hnb, hk, hsk, hhm⟩ := id hp
  obtain ⟨m, ord, tn, hm7, ho, hrc, hrm⟩ := hR.rule hN hM.1
  obtain ⟨b1, x, hx, hs⟩ := hR.bell
  by_cases hpp : a = 0 ∨ a = 1
  · by_cases hm0 : m = 0
    · exact vc_81 ω a (t94 (fun _ => br_f (by decide) (br_t (by rw [hrc.1, hm0]; rfl) ⟨_, rfl, vc_165 ω a (t153 (fun _ => br_f (by decide) (br_t (by rw [hrm.1, hm0]; rfl) ⟨_, rfl, hQ _ _ hR⟩)) (fun z => absurd hpp z))⟩)) (fun z => absurd hpp z))
    · refine t81 (x := x) hp hc hm7 (by omega) ho hrc (fun k hk24 => (b1 k hk24).trans (hx k hk24)) hs hH ⟨hW, hWn⟩ e1 e3 hpp (fun ω1 hF1 => ?_)
      have hM1 : HM N kd sk hm ω1 := hM.fr hF1 ⟨rfl, rfl, rfl, rfl⟩
      have hrm1 : RM m ord tn ω1 := hrm.fr hF1 ⟨rfl, rfl⟩
      have e2' : ω1.1 29 16 = nI H := by rw [hF1.1 29 rfl]; exact e2
      have e4' : ω1.1 29 17 = nI W := by rw [hF1.1 29 rfl]; exact e4
      refine vc_165 ω1 a (t153 (fun _ => br_f (by decide) (br_f (by rw [hrm1.1]; exact nI_ne0 (by omega) (by omega)) ?_)) (fun z => absurd hpp z))
      exact t164 (x := x) hp hM1 hm7 ho hrm1 (by rw [hF1.1 31 rfl]; exact hx) hs hH hW e2' e4' (fun ω2 hF2 => ⟨_, rfl, hQ _ _ ((hR.sc (scV hF1)).sc (scV hF2))⟩)
  · exact vc_81 ω a (t94 (fun z => absurd z hpp) (fun _ => br_t rfl ⟨_, rfl, vc_165 ω a (t153 (fun z => absurd z hpp) (fun _ => br_t rfl ⟨_, rfl, hQ _ _ hR⟩))⟩))
