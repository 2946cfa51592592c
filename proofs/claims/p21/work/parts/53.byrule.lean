/-! BYRULE: ways forward, the class -/
def sT (x : Nat → Nat) (h : Nat) (G : Nat → Int) : Nat → Int
  | 0 => 0
  | t + 1 => sT x h G t + (x (4 * h + t) : Int) * G t
theorem sT_1 (x : Nat → Nat) (h : Nat) : ∀ t, sT x h (fun _ => 1) t = (sx x h t : Int)
  | 0 => rfl
  | t + 1 => by
    show sT x h (fun _ => 1) t + (x (4 * h + t) : Int) * 1 = ((sx x h t + x (4 * h + t) : Nat) : Int)
    rw [sT_1 x h t, Int.natCast_add, Int.mul_one]
theorem sT_lin (x : Nat → Nat) (h : Nat) (c : Int) (G K : Nat → Int) : ∀ t, sT x h (fun t => G t * c + K t) t = c * sT x h G t + sT x h K t
  | 0 => by show (0 : Int) = c * 0 + 0; omega
  | t + 1 => by
    show sT x h (fun t => G t * c + K t) t + (x (4 * h + t) : Int) * (G t * c + K t) = c * (sT x h G t + (x (4 * h + t) : Int) * G t) + (sT x h K t + (x (4 * h + t) : Int) * K t)
    rw [sT_lin x h c G K t, Int.mul_add, Int.mul_add, ← Int.mul_assoc, ← Int.mul_assoc, Int.mul_comm ((x (4 * h + t) : Int) * G t) c, ← Int.mul_assoc]
    omega
theorem dot_lin (w G K : Nat → Int) (c : Int) : ∀ n, dot w (fun W => c * G W + K W) n = c * dot w G n + dot w K n
  | 0 => by show (0 : Int) = c * 0 + 0; omega
  | n + 1 => by
    show dot w (fun W => c * G W + K W) n + w n * (c * G n + K n) = c * (dot w G n + w n * G n) + (dot w K n + w n * K n)
    rw [dot_lin w G K c n, Int.mul_add, Int.mul_add, ← Int.mul_assoc, ← Int.mul_assoc, Int.mul_comm (w n) c]
    omega
noncomputable def mdd (N m : Nat) (kd : Nat → Int32) (sk hm ord : Nat → Nat) (tn : Int32) (h t W : Nat) : Nat := mnd N (hm t) (gM kd sk t h) (ruS (RuP kd (gM kd sk t h) tn h W) ord m 0)
/-- what is mended in an hour, tenfold; what comes then, tenfold -/
noncomputable def mH (N m : Nat) (kd : Nat → Int32) (sk hm ord : Nat → Nat) (tn : Int32) (x : Nat → Nat) (h W : Nat) : Int := sT x h (fun t => (mdd N m kd sk hm ord tn h t W : Int)) 4
noncomputable def tH (nb m : Nat) (kd : Nat → Int32) (sk ord : Nat → Nat) (tn : Int32) (x : Nat → Nat) (h : Nat) (F : Nat → Int) (W : Nat) : Int := sT x h (fun t => F (nxW nb m kd sk ord tn h t W)) 4 + ((10 - s4 x h : Nat) : Int) * F W
noncomputable def rlF (N nb m : Nat) (kd : Nat → Int32) (sk hm ord : Nat → Nat) (tn : Int32) (x : Nat → Nat) : Nat → Nat → Int
  | 0, _ => 0
  | n + 1, W => (10 : Int) ^ n * mH N m kd sk hm ord tn x (5 - n) W + tH nb m kd sk ord tn x (5 - n) (rlF N nb m kd sk hm ord tn x n) W
theorem rlF_s {N nb m : Nat} {kd : Nat → Int32} {sk hm ord : Nat → Nat} {tn : Int32} {x : Nat → Nat} {h : Nat} (hh : h < 6) (W : Nat) : rlF N nb m kd sk hm ord tn x (6 - h) W = (10 : Int) ^ (5 - h) * mH N m kd sk hm ord tn x h W + tH nb m kd sk ord tn x h (rlF N nb m kd sk hm ord tn x (6 - (h + 1))) W := by
  rw [show 6 - h = (5 - h) + 1 by omega, show 6 - (h + 1) = 5 - h by omega]
  show (10 : Int) ^ (5 - h) * mH N m kd sk hm ord tn x (5 - (5 - h)) W + tH nb m kd sk ord tn x (5 - (5 - h)) (rlF N nb m kd sk hm ord tn x (5 - h)) W = _
  rw [show 5 - (5 - h) = h by omega]
theorem sT_bd {x : Nat → Nat} {h : Nat} {G : Nat → Int} {c : Int} : ∀ t, (∀ t', t' < t → 0 ≤ G t' ∧ G t' ≤ c) → 0 ≤ sT x h G t ∧ sT x h G t ≤ (sx x h t : Int) * c
  | 0, _ => ⟨Int.le_refl _, by show (0 : Int) ≤ ((0 : Nat) : Int) * c; simp⟩
  | t + 1, hG => by
    obtain ⟨a, b⟩ := sT_bd (x := x) (h := h) t (fun t' ht => hG t' (by omega))
    have g := hG t (by omega)
    have p1 : 0 ≤ (x (4 * h + t) : Int) * G t := Int.mul_nonneg (by omega) g.1
    have p2 : (x (4 * h + t) : Int) * G t ≤ (x (4 * h + t) : Int) * c := Int.mul_le_mul_of_nonneg_left g.2 (by omega)
    have e : ((sx x h (t + 1) : Nat) : Int) * c = (sx x h t : Int) * c + (x (4 * h + t) : Int) * c := by
      show (((sx x h t + x (4 * h + t) : Nat)) : Int) * c = _
      rw [Int.natCast_add, Int.add_mul]
    rw [e]
    show 0 ≤ sT x h G t + (x (4 * h + t) : Int) * G t ∧ sT x h G t + (x (4 * h + t) : Int) * G t ≤ _
    omega
theorem rlF_bd {N nb m : Nat} {kd : Nat → Int32} {sk hm ord : Nat → Nat} {tn : Int32} {x : Nat → Nat} (hhm : ∀ t, t < 4 → hm t < 100) (hx : ∀ h, s4 x h ≤ 10) : ∀ n, n ≤ 6 → ∀ W, 0 ≤ rlF N nb m kd sk hm ord tn x n W ∧ rlF N nb m kd sk hm ord tn x n W ≤ hiB n
  | 0, _, W => ⟨Int.le_refl _, Int.le_refl _⟩
  | n + 1, hn, W => by
    have ih := rlF_bd (N := N) (nb := nb) (m := m) (kd := kd) (sk := sk) (ord := ord) (tn := tn) hhm hx n (by omega)
    have tn1 := ten_le n (by omega)
    have hb := hiB_le n (by omega)
    have h4 := hx (5 - n)
    have a := sT_bd (x := x) (h := 5 - n) (G := fun t => (mdd N m kd sk hm ord tn (5 - n) t W : Int)) (c := 100) 4 (fun t ht => by
      have a := mnd_le N (hm t) (gM kd sk t (5 - n)) (ruS (RuP kd (gM kd sk t (5 - n)) tn (5 - n) W) ord m 0)
      have b := hhm t ht
      show 0 ≤ ((mnd N (hm t) (gM kd sk t (5 - n)) (ruS (RuP kd (gM kd sk t (5 - n)) tn (5 - n) W) ord m 0) : Nat) : Int) ∧ ((mnd N (hm t) (gM kd sk t (5 - n)) (ruS (RuP kd (gM kd sk t (5 - n)) tn (5 - n) W) ord m 0) : Nat) : Int) ≤ 100
      omega)
    have b := sT_bd (x := x) (h := 5 - n) (G := fun t => rlF N nb m kd sk hm ord tn x n (nxW nb m kd sk ord tn (5 - n) t W)) (c := hiB n) 4 (fun t _ => ih _)
    rw [sx_4] at a b
    have c := ih W
    have p1 : 0 ≤ (10 : Int) ^ n * mH N m kd sk hm ord tn x (5 - n) W := Int.mul_nonneg (by omega) a.1
    have p2 : (10 : Int) ^ n * mH N m kd sk hm ord tn x (5 - n) W ≤ (10 : Int) ^ n * (10 * 100) := Int.mul_le_mul_of_nonneg_left (by
      have : mH N m kd sk hm ord tn x (5 - n) W ≤ (s4 x (5 - n) : Int) * 100 := a.2
      omega) (by omega)
    have p3 : 0 ≤ ((10 - s4 x (5 - n) : Nat) : Int) * rlF N nb m kd sk hm ord tn x n W := Int.mul_nonneg (by omega) c.1
    have p4 : ((10 - s4 x (5 - n) : Nat) : Int) * rlF N nb m kd sk hm ord tn x n W ≤ ((10 - s4 x (5 - n) : Nat) : Int) * hiB n := Int.mul_le_mul_of_nonneg_left c.2 (by omega)
    have e : (s4 x (5 - n) : Int) * hiB n + ((10 - s4 x (5 - n) : Nat) : Int) * hiB n = 10 * hiB n := by
      rw [← Int.add_mul]
      congr 1
      omega
    have et : tH nb m kd sk ord tn x (5 - n) (rlF N nb m kd sk hm ord tn x n) W = sT x (5 - n) (fun t => rlF N nb m kd sk hm ord tn x n (nxW nb m kd sk ord tn (5 - n) t W)) 4 + ((10 - s4 x (5 - n) : Nat) : Int) * rlF N nb m kd sk hm ord tn x n W := rfl
    show 0 ≤ (10 : Int) ^ n * mH N m kd sk hm ord tn x (5 - n) W + tH nb m kd sk ord tn x (5 - n) (rlF N nb m kd sk hm ord tn x n) W ∧ (10 : Int) ^ n * mH N m kd sk hm ord tn x (5 - n) W + tH nb m kd sk ord tn x (5 - n) (rlF N nb m kd sk hm ord tn x n) W ≤ 10 * (hiB n + 100 * 10 ^ n)
    rw [et]
    omega
/-- what the class says a set mends -/
theorem t35N {N nb : Nat} {kd : Nat → Int32} {sk hm : Nat → Nat} {ω : Om} (hp : HP N nb kd sk hm) (hc : HC N nb kd sk hm ω) {S t H : Nat} (hS : S < 128) (ht : t < 4) (hH : H < 6) {Q : Int32 → Om → Prop} (q : Q (nI (mnd N (hm t) (gM kd sk t H) S)) ω) : me_CtI 35 [.ref 11, .int (nI S), .int (nI t), .int (nI H)] ω Q := by
  obtain ⟨hN, -, -, p4, p5⟩ := hp
  obtain ⟨c1, c2, c3, c4, c5⟩ := hc
  have hb : smN S (gM kd sk t H) N ≤ 100 * N := smN_le N (fun s hs => mdN_lt (p4 _ (by omega)))
  have h5 := p5 t ht
  refine t35 (f := fun s => nI (gM kd sk t H s)) (hv := nI (hm t)) hN c1 hS (fun s hs _ X hX => t34 (by omega) ht hH ?_) (fun X hX => t26 (fun b hb4 e => ?_) (fun z => absurd (vp_in_nI ht (by decide)) z)) ?_
  · rw [c3 s (by omega), c4 _ (by omega), mdF_N (p4 _ (by omega)) hH]
    exact hX
  · obtain rfl : t = b := (nI_eq (by omega) (by omega)).mp e
    rw [c5 t ht]
    exact hX
  · rw [sm_N (g := gM kd sk t H) N (fun s _ => rfl)]
    unfold mnd at q
    by_cases c : hm t < smN S (gM kd sk t H) N
    · rw [if_pos c] at q
      rw [if_pos (nI_lt c (by omega))]
      exact q
    · rw [if_neg c] at q
      rw [if_neg (fun z => c ((nI_ltI (by omega) (by omega)).mp z))]
      exact q
theorem t118 {ω : Om} {N nb m : Nat} {kd : Nat → Int32} {sk hm ord x : Nat → Nat} {tn : Int32} (hp : HP N nb kd sk hm) (hc : HC N nb kd sk hm ω) (hm7 : m ≤ 7) (ho : ∀ k, k < m → ord k < N) (hr : RC m ord tn ω) (hx : ∀ k, k < 24 → ω.1 8 k = nI (x k)) (hs : ∀ h, s4 x h ≤ 10) {h W : Nat} (hh : h < 6) (hS : Sup N nb W) {y : Int} (hy : 0 ≤ y) {w : Nat → Int} (hw : Wr ω (h + 1) w) (hok : Okw N nb w) {Q : Int64 → Om → Prop} (q : ∀ ω' w', Fr [] [28] ω ω' → (∀ i, (i < (h + 1) * 128 ∨ (h + 1) * 128 + 128 ≤ i) → ω'.2 28 i = ω.2 28 i) → Wr ω' (h + 1) w' → Okw N nb w' → (∀ F, dot w' F 128 = dot w F 128 + y * tH nb m kd sk ord tn x h F W) → Q (jI (y * mH N m kd sk hm ord tn x h W)) ω') : me_CtJ 118 [.ref 0, .int (nI h), .int (nI W), .long (jI y)] ω Q := by
  obtain ⟨hN, hnb, hk, hsk, hhm⟩ := id hp
  have h7 := pow7 hN
  have x10 := s4_x hs
  have hsh := hs h
  have hWl := hS.1
  have key : ∀ n t ω' w', t + n = 4 → Fr [] [28] ω ω' → (∀ i, (i < (h + 1) * 128 ∨ (h + 1) * 128 + 128 ≤ i) → ω'.2 28 i = ω.2 28 i) → Wr ω' (h + 1) w' → Okw N nb w' → (∀ F, dot w' F 128 = dot w F 128 + y * sT x h (fun t => F (nxW nb m kd sk ord tn h t W)) t) → me_W 118 10 [some (.ref 0), some (.int (nI h)), some (.int (nI W)), some (.long (jI y)), none, some (.long (jI (y * sT x h (fun t => (mdd N m kd sk hm ord tn h t W : Int)) t))), none, some (.int (nI (10 - sx x h t))), some (.int (nI t)), none, none] [] ω' (fun r ω' => ∃ v : Int64, r = some (.long v) ∧ Q v ω') := by
    intro n
    induction n with
    | zero =>
      intro t ω' w' ht hF ho1 hw1 hok1 hd
      obtain rfl : t = 4 := by omega
      refine vl_118_10 ω' _ _ _ _ _ _ (br_t (by decide) ?_)
      rw [nI_1, sx_4, nI_J (by omega), jI_mul]
      refine t60w (by omega) (by omega) ⟨_, rfl, ?_⟩
      refine q _ _ (Fr.ul hF rfl) (fun i hi => ?_) (hw1.add (by omega) _) (hok1.add (Int.mul_nonneg hy (by omega)) hS) (fun F => ?_)
      · rw [ul_n (by omega)]; exact ho1 i hi
      · rw [dot_upd, if_pos (by omega), hd F]
        show _ = dot w F 128 + y * (sT x h (fun t => F (nxW nb m kd sk ord tn h t W)) 4 + ((10 - s4 x h : Nat) : Int) * F W)
        rw [Int.mul_add, ← Int.mul_assoc]
        omega
    | succ n ih =>
      intro t ω' w' ht hF ho1 hw1 hok1 hd
      have xl := x10 (4 * h + t)
      have sl := sx_le x h (t + 1) (by omega)
      have es : sx x h (t + 1) = sx x h t + x (4 * h + t) := rfl
      have eT : ∀ G, sT x h G (t + 1) = sT x h G t + (x (4 * h + t) : Int) * G t := fun _ => rfl
      refine vl_118_10 ω' _ _ _ _ _ _ (br_f (nI_ge (b := 4) (by omega) (by decide)) (t2 (fun a b ha hb ea eb => ?_) (fun z => absurd ⟨vp_in_nI hh (by decide), vp_in_nI (by omega) (by decide)⟩ z)))
      obtain rfl : h = a := (nI_eq (by omega) (by omega)).mp ea
      obtain rfl : t = b := (nI_eq (by omega) (by omega)).mp eb
      rw [hF.1 8 rfl, hx _ (by omega), Nat.mul_comm h 4, nI_1 t]
      refine ⟨fun c => ?_, fun c => ?_⟩
      · have z : x (4 * h + t) = 0 := by
          have := (nI_leI (b := 0) (by omega) (by decide)).mp c
          omega
        have e0 : ∀ G, sT x h G (t + 1) = sT x h G t := fun G => by
          rw [eT G, z]
          simp
        have i1 := ih (t + 1) ω' w' (by omega) hF ho1 hw1 hok1 (fun F => by rw [e0]; exact hd F)
        rw [e0, es, z, Nat.add_zero] at i1
        exact i1
      · have hc' : HC N nb kd sk hm ω' := hc.fr hF ⟨rfl, rfl, rfl, rfl⟩
        have hsl : ruS (RuP kd (gM kd sk t h) tn h W) ord m 0 < 2 ^ N := ruS_lt m 0 (fun i hi => ho i (by omega))
        have hsup : Sup N nb (nxW nb m kd sk ord tn h t W) := nxW_sup ho hS
        have hl := hsup.1
        have ml := mnd_le N (hm t) (gM kd sk t h) (ruS (RuP kd (gM kd sk t h) tn h W) ord m 0)
        have hm1 := hhm t (by omega)
        refine t115 hp hc' hm7 ho (hr.fr hF ⟨rfl, rfl⟩) hh (by omega) hS.1 hS.2 (t35N hp hc' (by omega) (by omega) hh (t31 ?_))
        rw [or_spent hc'.2.1 (by omega) (by omega) (by omega), nI_1 h, nI_J (by omega : x (4 * h + t) < 2 ^ 31), nI_J (by omega : mnd N (hm t) (gM kd sk t h) (ruS (RuP kd (gM kd sk t h) tn h W) ord m 0) < 2 ^ 31), jI_mul, jI_mul, jI_add, pk_sub (by omega)]
        refine t60w (A := nxW nb m kd sk ord tn h t W) (by omega) (by omega) ?_
        have ea2 : y * sT x h (fun t => (mdd N m kd sk hm ord tn h t W : Int)) t + y * (x (4 * h + t) : Int) * ((mnd N (hm t) (gM kd sk t h) (ruS (RuP kd (gM kd sk t h) tn h W) ord m 0) : Nat) : Int) = y * sT x h (fun t => (mdd N m kd sk hm ord tn h t W : Int)) (t + 1) := by
          rw [eT, Int.mul_add, ← Int.mul_assoc]
          rfl
        rw [ea2, show 10 - sx x h t - x (4 * h + t) = 10 - sx x h (t + 1) by omega]
        refine ih (t + 1) _ _ (by omega) (Fr.ul hF rfl) (fun i hi => ?_) (hw1.add (by omega) _) (hok1.add (Int.mul_nonneg hy (by omega)) hsup) (fun F => ?_)
        · rw [ul_n (by omega)]; exact ho1 i hi
        · rw [dot_upd, if_pos (by omega), hd F, eT, Int.mul_add, ← Int.mul_assoc]
          omega
  have k0 := key 4 0 ω w rfl (Fr.o _ _ ω) (fun _ _ => rfl) hw hok (fun F => by
    show _ = _ + y * 0
    omega)
  have e0 : y * sT x h (fun t => (mdd N m kd sk hm ord tn h t W : Int)) 0 = 0 := by
    show y * 0 = 0
    omega
  rw [e0] at k0
  exact vc_118 ω _ _ _ k0
/-- an hour of the class -/
theorem t117 {ω : Om} {N nb m : Nat} {kd : Nat → Int32} {sk hm ord x : Nat → Nat} {tn : Int32} (hp : HP N nb kd sk hm) (hc : HC N nb kd sk hm ω) (hm7 : m ≤ 7) (ho : ∀ k, k < m → ord k < N) (hr : RC m ord tn ω) (hx : ∀ k, k < 24 → ω.1 8 k = nI (x k)) (hs : ∀ h, s4 x h ≤ 10) {h : Nat} (hh : h < 6) {w : Nat → Int} (hw : Wr ω h w) (hok : Okw N nb w) (hsum : dot w (fun _ => 1) 128 ≤ 1000000) (hz : Wr ω (h + 1) (fun _ => 0)) {Q : Int64 → Om → Prop} (q : ∀ ω' w', Fr [] [28] ω ω' → (∀ i, (i < (h + 1) * 128 ∨ (h + 1) * 128 + 128 ≤ i) → ω'.2 28 i = ω.2 28 i) → Wr ω' (h + 1) w' → Okw N nb w' → (∀ F, dot w' F 128 = dot w (tH nb m kd sk ord tn x h F) 128) → Q (jI (dot w (mH N m kd sk hm ord tn x h) 128)) ω') : me_CtJ 117 [.ref 0, .int (nI h)] ω Q := by
  have nn : ∀ j, j < 128 → 0 ≤ w j := fun j hj => (hok j hj).1
  have key : ∀ n j ω' w', j + n = 128 → Fr [] [28] ω ω' → (∀ i, (i < (h + 1) * 128 ∨ (h + 1) * 128 + 128 ≤ i) → ω'.2 28 i = ω.2 28 i) → Wr ω' (h + 1) w' → Okw N nb w' → (∀ F, dot w' F 128 = dot w (tH nb m kd sk ord tn x h F) j) → me_W 117 5 [some (.ref 0), some (.int (nI h)), some (.long (jI (dot w (mH N m kd sk hm ord tn x h) j))), none, some (.int (nI j)), none, none] [] ω' (fun r ω' => ∃ v : Int64, r = some (.long v) ∧ Q v ω') := by
    intro n
    induction n with
    | zero =>
      intro j ω' w' hj hF ho1 hw1 hok1 hd
      obtain rfl : j = 128 := by omega
      exact vl_117_5 ω' _ _ _ (br_t (by decide) ⟨_, rfl, q ω' w' hF ho1 hw1 hok1 hd⟩)
    | succ n ih =>
      intro j ω' w' hj hF ho1 hw1 hok1 hd
      have nj := hok j (by omega)
      have bj := (dot_nn 128 nn).2 j (by omega)
      have hw' : Wr ω' h w := fun V hV => by rw [ho1 _ (by omega)]; exact hw V hV
      refine vl_117_5 ω' _ _ _ (br_f (nI_ge (b := 128) (by omega) (by decide)) (t58w (by omega) (by omega) ?_))
      rw [hw' j (by omega), nI_1]
      have hcm : (lg_cmp (jI (w j)) (0 : Int64) ≤ 0) ↔ w j ≤ 0 := by
        rw [← jI_0]
        exact jI_cle ⟨by omega, by omega⟩ ⟨by decide, by decide⟩
      have eD : ∀ G, dot w G (j + 1) = dot w G j + w j * G j := fun _ => rfl
      refine ⟨fun c => ?_, fun c => ?_⟩
      · have c' := hcm.mp c
        have z : w j = 0 := by omega
        have e0 : ∀ G, dot w G (j + 1) = dot w G j := fun G => by
          rw [eD G, z]
          simp
        have i1 := ih (j + 1) ω' w' (by omega) hF ho1 hw1 hok1 (fun F => by rw [e0]; exact hd F)
        rw [e0] at i1
        exact i1
      · have c' : ¬ w j ≤ 0 := fun z => c (hcm.mpr z)
        have hS : Sup N nb j := by
          by_cases y : Sup N nb j
          · exact y
          · exact absurd (nj.2 y) (by omega)
        refine t118 (x := x) hp (hc.fr hF ⟨rfl, rfl, rfl, rfl⟩) hm7 ho (hr.fr hF ⟨rfl, rfl⟩) (by rw [hF.1 8 rfl]; exact hx) hs hh hS (by omega) hw1 hok1 (fun ω2 w2 hF2 ho2 hw2 hok2 hd2 => ?_)
        rw [jI_add, ← eD]
        refine ih (j + 1) ω2 w2 (by omega) (hF.trans hF2) (fun i hi => ?_) hw2 hok2 (fun F => ?_)
        · rw [ho2 i hi]; exact ho1 i hi
        · rw [hd2 F, hd F, eD]
  have k0 := key 128 0 ω (fun _ => 0) (by omega) (Fr.o _ _ ω) (fun _ _ => rfl) hz (fun V _ => ⟨Int.le_refl _, fun _ => rfl⟩) (fun F => by rw [dot_z]; rfl)
  exact vc_117 ω _ k0
theorem ten_s {H h : Nat} (hh : H ≤ h) : (10 : Int) ^ (h + 1 - H) = 10 * 10 ^ (h - H) := by
  rw [show h + 1 - H = (h - H) + 1 by omega, Int.pow_succ']
theorem t81 {ω : Om} {N nb m : Nat} {kd : Nat → Int32} {sk hm ord x : Nat → Nat} {tn : Int32} (hp : HP N nb kd sk hm) (hc : HC N nb kd sk hm ω) (hm7 : m ≤ 7) (hm0 : 0 < m) (ho : ∀ k, k < m → ord k < N) (hr : RC m ord tn ω) (hx : ∀ k, k < 24 → ω.1 8 k = nI (x k)) (hs : ∀ h, s4 x h ≤ 10) {H W : Nat} (hH : H ≤ 6) (hS : Sup N nb W) (eH : ω.1 16 0 = nI H) (eW : ω.1 16 1 = nI W) {p : Int32} (hpp : p = 0 ∨ p = 1) {Q : Int64 → Om → Prop} (q : ∀ ω', Fr [] [28] ω ω' → Q (jI (frN (rlF N nb m kd sk hm ord tn x (6 - H) W).toNat (10 ^ (6 - H)) p : Int)) ω') : me_CtJ 81 [.ref 0, .int p] ω Q := by
  obtain ⟨hN, hnb, hk, hsk, hhm⟩ := id hp
  have h7 := pow7 hN
  have hWl := hS.1
  obtain ⟨F, eF⟩ : ∃ F, F = rlF N nb m kd sk hm ord tn x := ⟨_, rfl⟩
  rw [← eF] at q
  have bd : ∀ n, n ≤ 6 → ∀ W, 0 ≤ F n W ∧ F n W ≤ 1000000000 := fun n hn W => by
    rw [eF]
    have a := rlF_bd (N := N) (nb := nb) (m := m) (kd := kd) (sk := sk) (ord := ord) (tn := tn) hhm hs n hn W
    have b := hiB_le n hn
    omega
  have key : ∀ n h ω' w (a : Int), h + n = 6 → H ≤ h → Fr [] [28] ω ω' → Wr ω' h w → (∀ h', h < h' → h' ≤ 6 → Wr ω' h' (fun _ => 0)) → Okw N nb w → dot w (fun _ => 1) 128 = 10 ^ (h - H) → a + dot w (F (6 - h)) 128 = F (6 - H) W → me_W 81 54 [some (.ref 0), some (.int p), some (.long (jI a)), none, some (.int (nI h))] [] ω' (fun r ω' => ∃ v : Int64, r = some (.long v) ∧ Q v ω') := by
    intro n
    induction n with
    | zero =>
      intro h ω' w a hn hHh hF hw hz hok hsum hval
      obtain rfl : h = 6 := by omega
      have e1 : ω'.1 16 0 = nI H := by rw [hF.1 16 rfl]; exact eH
      have e0 : F (6 - 6) = fun _ => 0 := by
        rw [eF]
        funext W
        rfl
      have ez : dot w (F (6 - 6)) 128 = 0 := by
        rw [e0, dot_con]
        omega
      have ea : a = F (6 - H) W := by omega
      have b := bd (6 - H) (by omega) W
      have en : F (6 - H) W = ((F (6 - H) W).toNat : Int) := by omega
      have tp : ∀ k, k < 7 → ((10 : Int) ^ k = ((10 ^ k : Nat) : Int)) ∧ 0 < 10 ^ k ∧ 10 ^ k < 2 ^ 40 := by decide
      have tk := tp (6 - H) (by omega)
      refine vl_81_54 ω' _ _ _ (br_t (by decide) ?_)
      rw [e1, show (6 : Int32) = nI 6 from rfl, pk_sub hH]
      refine t95 (by omega) ?_
      rw [ea, en, tk.1]
      exact t102 (by omega) tk.2.1 tk.2.2 ⟨_, rfl, q ω' hF⟩
    | succ n ih =>
      intro h ω' w a hn hHh hF hw hz hok hsum hval
      have t1 := ten_le (h - H) (by omega)
      refine vl_81_54 ω' _ _ _ (br_f (nI_ge (b := 6) (by omega) (by decide)) ?_)
      refine t117 (x := x) hp (hc.fr hF ⟨rfl, rfl, rfl, rfl⟩) hm7 ho (hr.fr hF ⟨rfl, rfl⟩) (by rw [hF.1 8 rfl]; exact hx) hs (by omega) hw hok (by omega) (hz (h + 1) (by omega) (by omega)) (fun ω2 w2 hF2 ho2 hw2 hok2 hd2 => ?_)
      rw [ix5 (by omega), nI_1]
      refine t95 (by omega) ?_
      rw [jI_mul, jI_add]
      refine ih (h + 1) ω2 w2 _ (by omega) (by omega) (hF.trans hF2) hw2 (fun h' h1 h2 V hV => ?_) hok2 ?_ ?_
      · rw [ho2 _ (by omega)]; exact hz h' (by omega) h2 V hV
      · rw [hd2, ten_s hHh, ← hsum, ← dot_con]
        refine dot_c 128 (fun j _ => Or.inr ?_)
        show sT x h (fun _ => 1) 4 + ((10 - s4 x h : Nat) : Int) * 1 = 10
        rw [sT_1, sx_4]
        have := hs h
        omega
      · rw [hd2, ← hval]
        have e2 : dot w (F (6 - h)) 128 = (10 : Int) ^ (5 - h) * dot w (mH N m kd sk hm ord tn x h) 128 + dot w (tH nb m kd sk ord tn x h (F (6 - (h + 1)))) 128 := by
          rw [← dot_lin]
          refine dot_c 128 (fun j _ => Or.inr ?_)
          rw [eF]
          exact rlF_s (by omega) j
        rw [e2, Int.mul_comm ((10 : Int) ^ (5 - h))]
        omega
  refine vc_81 ω p (t94 (fun _ => br_f (by decide) ?_) (fun z => absurd hpp z))
  refine br_f (by rw [hr.1]; exact nI_ne0 hm0 (by omega)) ?_
  rw [eH, eW]
  refine t116 hH (by omega) (fun ω1 hF1 hw1 hz1 => ?_)
  have e1 : ω1.1 16 0 = nI H := by rw [hF1.1 16 rfl]; exact eH
  rw [e1]
  have k0 := key (6 - H) H ω1 (dlt W) 0 (by omega) (Nat.le_refl _) hF1 hw1 hz1 (fun V hV => by
    unfold dlt
    by_cases c : V = W
    · subst c
      rw [if_pos rfl]
      exact ⟨by decide, fun z => absurd hS z⟩
    · rw [if_neg c]
      exact ⟨Int.le_refl _, fun _ => rfl⟩) (by
    rw [dot_d, if_pos (by omega), show H - H = 0 by omega]
    rfl) (by
    rw [dot_d, if_pos (by omega)]
    omega)
  exact k0
