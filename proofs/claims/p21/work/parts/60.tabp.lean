/-! THE TABLE, FOR THE PLAN (cell 26): turned by program from those for work -/
theorem t58p {ω : Om} {h A : Nat} (hh : h ≤ 6) (hA : A < 128) {Q : Int64 → Om → Prop} (q : Q (ω.2 26 (h * 128 + A)) ω) : me_CtJ 58 [.ref 25, .int (nI h), .int (nI A)] ω Q := by
  refine vc_58p ω (nI h) (nI A) (t62 (fun _ _ => br_f (by decide) ?_) (fun z => absurd ⟨vp_in_nI (by omega) (by decide), vp_in_nI hA (by decide)⟩ z))
  rw [ix128, nI_clamp (by omega)]
  exact ⟨vp_in_nI (by omega) (by decide), _, rfl, q⟩
theorem t59p {ω : Om} {h A : Nat} (hh : h ≤ 6) (hA : A < 128) {v : Int64} {Q : Om → Prop} (q : Q (ul ω 26 (h * 128 + A) v)) : me_CtV 59 [.ref 25, .int (nI h), .int (nI A), .long v] ω Q := by
  refine vc_59p ω (nI h) (nI A) v (t62 (fun _ _ => br_f (by decide) ?_) (fun z => absurd ⟨vp_in_nI (by omega) (by decide), vp_in_nI hA (by decide)⟩ z))
  rw [ix128, nI_clamp (by omega)]
  exact ⟨vp_in_nI (by omega) (by decide), rfl, q⟩
theorem t16p {ω : Om} {N nb h A n : Nat} {u : Int} {f : Nat → Int} {mv L : Nat → Nat} (hN : N ≤ 7) (hh : h ≤ 6) (hA : A < 2 ^ N) (hu : 0 ≤ u) (hu2 : u ≤ 1000000) (hn : n ≤ 28) (hG : Gf nb mv ω n L) (hL : ∀ i, i < n → L i < 128) (hmv : ∀ S, mv S < 100) (hnb : nb < 128) (hr : Rw 26 ω h N f) (hb : Bf N f) {Q : Int64 → Om → Prop} (q : ∀ r, r = mst (fun S => (mv S : Int) * u + f (dif A (dif S nb))) (fun c => dif c A = 0) L (f A) n → Q (jI r.1) (ui ω 20 5 (nI r.2))) : me_CtJ 16 [.ref 20, .ref 25, .int (nI h), .int (nI A), .long (jI u)] ω Q := by
  have h7 := pow7 hN
  obtain ⟨V, eV⟩ : ∃ V, V = fun S => (mv S : Int) * u + f (dif A (dif S nb)) := ⟨_, rfl⟩
  rw [← eV] at q
  have bV : ∀ S, Bd (V S) := by
    intro S
    rw [eV]
    have a := mul_bd (hmv S) hu hu2
    have b := hb (dif A (dif S nb)) (dif_lt hA)
    show -1000000000000000 < (mv S : Int) * u + f (dif A (dif S nb)) ∧ (mv S : Int) * u + f (dif A (dif S nb)) < 1000000000000000
    omega
  have bM : ∀ i, Bd (mst V (fun c => dif c A = 0) L (f A) i).1 := by
    intro i
    induction i with
    | zero =>
      have b := hb A hA
      show -1000000000000000 < f A ∧ f A < 1000000000000000
      omega
    | succ i ih =>
      by_cases c : dif (L i) A = 0 ∧ (mst V (fun c => dif c A = 0) L (f A) i).1 < V (L i)
      · rw [mst_in c]; exact bV _
      · rw [mst_out c]; exact ih
  have key : ∀ k i, i + k = n → me_W 16 16 [some (.ref 20), some (.ref 25), some (.int (nI h)), some (.int (nI A)), some (.long (jI u)), none, some (.long (jI (mst V (fun c => dif c A = 0) L (f A) i).1)), none, some (.int (nI i)), none, none] [] (ui ω 20 5 (nI (mst V (fun c => dif c A = 0) L (f A) i).2)) (fun r ω' => ∃ v : Int64, r = some (.long v) ∧ Q v ω') := by
    intro k
    induction k with
    | zero =>
      intro i hi
      obtain rfl : i = n := by omega
      have e1 : (ui ω 20 5 (nI (mst V (fun c => dif c A = 0) L (f A) i).2)).1 20 4 = nI i := hG.1
      exact vl_16p_16 _ _ _ _ _ _ (br_t (by rw [e1]; exact Int32.le_refl _) ⟨_, rfl, q _ rfl⟩)
    | succ k ih =>
      intro i hi
      have e1 : (ui ω 20 5 (nI (mst V (fun c => dif c A = 0) L (f A) i).2)).1 20 4 = nI n := hG.1
      obtain ⟨g1, g2, g3⟩ := hG.2 i (by omega)
      have e2 : (ui ω 20 5 (nI (mst V (fun c => dif c A = 0) L (f A) i).2)).1 21 i = nI (L i) := g1
      have e3 : (ui ω 20 5 (nI (mst V (fun c => dif c A = 0) L (f A) i).2)).1 22 i = nI (dif (L i) nb) := g2
      have e4 : (ui ω 20 5 (nI (mst V (fun c => dif c A = 0) L (f A) i).2)).2 23 i = jI (mv (L i) : Int) := g3
      have vi : vp_in (nI i) 28 := vp_in_nI (by omega) (by decide)
      have hLi := hL i (by omega)
      have i1 := ih (i + 1) (by omega)
      have hd : dif (L i) nb < 128 := dif_lt (n := 7) hLi
      have hd2 : dif A (dif (L i) nb) < 2 ^ N := dif_lt hA
      refine vl_16p_16 _ _ _ _ _ _ (br_f (by rw [e1]; exact nI_ge (by omega) (by omega)) (br_f (nI_ge (b := 28) (by omega) (by decide)) ⟨vi, ?_⟩))
      rw [nI_clamp (by omega), e2, e3, e4, nI_1, dif_I hLi (by omega), dif_I (by omega) hd]
      refine ⟨fun c => ⟨vi, vi, t58p hh (by omega) ?_⟩, fun c => ?_⟩
      · have c' : dif (L i) A = 0 := (nI_eq (b := 0) (Nat.lt_trans (dif_lt (n := 7) hLi) (by decide)) (by decide)).mp c
        have er : (ui ω 20 5 (nI (mst V (fun c => dif c A = 0) L (f A) i).2)).2 26 (h * 128 + dif A (dif (L i) nb)) = jI (f (dif A (dif (L i) nb))) := hr _ hd2
        have ev : jI (mv (L i) : Int) * jI u + jI (f (dif A (dif (L i) nb))) = jI (V (L i)) := by
          rw [jI_mul, jI_add, eV]
        rw [er, ev]
        refine ⟨fun c2 => ?_, fun c2 => ⟨vi, ?_⟩⟩
        · have := (jI_cle (bV _) (bM i)).mp c2
          rw [mst_out (fun z => by omega)] at i1
          exact i1
        · have : (mst V (fun c => dif c A = 0) L (f A) i).1 < V (L i) := by
            by_cases z : (mst V (fun c => dif c A = 0) L (f A) i).1 < V (L i)
            · exact z
            · exact absurd ((jI_cle (bV _) (bM i)).mpr (by omega)) c2
          rw [mst_in ⟨c', this⟩] at i1
          rw [e2, ui_ui]
          exact i1
      · have c' : ¬ dif (L i) A = 0 := fun z => c (by rw [z]; rfl)
        rw [mst_out (fun z => c' z.1)] at i1
        exact i1
  refine vc_16p ω (nI h) (nI A) (jI u) (t58p hh (by omega) ?_)
  rw [hr A hA]
  exact key n 0 (by omega)
theorem u16p {ω : Om} {N nb : Nat} {kd : Nat → Int32} {sk hm : Nat → Nat} (hp : HP N nb kd sk hm) {H t h A n : Nat} (ht : t < 4) {u : Int} {f : Nat → Int} {L : Nat → Nat} (hh : h ≤ 6) (hA : A < 2 ^ N) (hu : 0 ≤ u) (hu2 : u ≤ 1000000) (hn : n ≤ 28) (hG : Gf nb (mnd N (hm t) (gM kd sk t H)) ω n L) (hI : GI (P2 (hm t) (alN N (hm t) kd (gM kd sk t H) H) 7 0) n L) (hr : Rw 26 ω h N f) (hb : Bf N f) (hf : Mnt N f) {Q : Int64 → Om → Prop} (q : ∀ p, Opt N kd H A (vA N nb (hm t) (gM kd sk t H) u f A) p → Q (jI (mxU (Alw kd H A) (vA N nb (hm t) (gM kd sk t H) u f A) (2 ^ N))) (ui ω 20 5 (nI p))) : me_CtJ 16 [.ref 20, .ref 25, .int (nI h), .int (nI A), .long (jI u)] ω Q := by
  obtain ⟨hN, hnb, hk, hsk, hhm⟩ := id hp
  have h7 := pow7 hN
  have hL : ∀ i, i < n → L i < 128 := by
    intro i hi
    rcases hI.1 i hi with ⟨s, hs, -, e⟩ | ⟨a, ha, b, hb, -, -, -, e⟩
    · rw [e]; exact (ky_1 s hs).2.2
    · rw [e]; exact (ky_2 a ha b hb).2.2
  refine t16p hN hh hA hu hu2 hn hG hL (fun S => Nat.lt_of_le_of_lt (mnd_le _ _ _ S) (hhm t ht)) (by omega) hr hb (fun r er => ?_)
  have c := core (nb := nb) (hv := hm t) (kd := kd) (g := gM kd sk t H) (H := H) (A := A) (u := u) hN hA hf hu hI
  have e : mst (vA N nb (hm t) (gM kd sk t H) u f A) (fun c => dif c A = 0) L (f A) n = r := er.symm
  rw [e] at c
  rw [c.2]
  exact q r.2 c.1
theorem t61p {ω : Om} {h : Nat} (hh : h ≤ 6) {Q : Om → Prop} (q : ∀ ω', Fr [] [26] ω ω' → (∀ A, A < 128 → ω'.2 26 (h * 128 + A) = 0) → (∀ i, (i < h * 128 ∨ h * 128 + 128 ≤ i) → ω'.2 26 i = ω.2 26 i) → Q ω') : me_CtV 61 [.ref 25, .int (nI h)] ω Q := by
  have key : ∀ n j ω', j + n = 128 → Fr [] [26] ω ω' → (∀ A, A < j → ω'.2 26 (h * 128 + A) = 0) → (∀ i, (i < h * 128 ∨ h * 128 + 128 ≤ i) → ω'.2 26 i = ω.2 26 i) → me_W 61 2 [some (.ref 25), some (.int (nI h)), some (.int (nI j))] [] ω' (fun r ω' => r = none ∧ Q ω') := by
    intro n
    induction n with
    | zero =>
      intro j ω' hj hF h1 h2
      obtain rfl : j = 128 := by omega
      exact vl_61p_2 ω' _ _ (br_t (by decide) ⟨rfl, q ω' hF h1 h2⟩)
    | succ n ih =>
      intro j ω' hj hF h1 h2
      refine vl_61p_2 ω' _ _ (br_f (nI_ge (b := 128) (by omega) (by decide)) (t59p hh (by omega) ?_))
      rw [nI_1]
      refine ih (j + 1) _ (by omega) (Fr.ul hF rfl) (fun A hA => ?_) (fun i hi => ?_)
      · by_cases e : A = j
        · subst e; exact ul_s
        · rw [ul_n (by omega)]; exact h1 A (by omega)
      · rw [ul_n (by omega)]; exact h2 i hi
  exact vc_61p ω _ (key 128 0 ω (by omega) (Fr.o _ _ ω) (fun A hA => absurd hA (by omega)) (fun _ _ => rfl))
theorem t60p {ω : Om} {h A : Nat} (hh : h ≤ 6) (hA : A < 128) {v : Int64} {Q : Om → Prop} (q : Q (ul ω 26 (h * 128 + A) (ω.2 26 (h * 128 + A) + v))) : me_CtV 60 [.ref 25, .int (nI h), .int (nI A), .long v] ω Q :=
  vc_60p ω _ _ _ (t58p hh hA (t59p hh hA ⟨rfl, q⟩))
