/-! THE TABLE, AND THE MOST OF THE CHOICES (work: cell 28) -/
theorem t58w {ω : Om} {h A : Nat} (hh : h ≤ 6) (hA : A < 128) {Q : Int64 → Om → Prop} (q : Q (ω.2 28 (h * 128 + A)) ω) : me_CtJ 58 [.ref 27, .int (nI h), .int (nI A)] ω Q := by
  refine vc_58w ω (nI h) (nI A) (t62 (fun _ _ => br_f (by decide) ?_) (fun z => absurd ⟨vp_in_nI (by omega) (by decide), vp_in_nI hA (by decide)⟩ z))
  rw [ix128, nI_clamp (by omega)]
  exact ⟨vp_in_nI (by omega) (by decide), _, rfl, q⟩
theorem t59w {ω : Om} {h A : Nat} (hh : h ≤ 6) (hA : A < 128) {v : Int64} {Q : Om → Prop} (q : Q (ul ω 28 (h * 128 + A) v)) : me_CtV 59 [.ref 27, .int (nI h), .int (nI A), .long v] ω Q := by
  refine vc_59w ω (nI h) (nI A) v (t62 (fun _ _ => br_f (by decide) ?_) (fun z => absurd ⟨vp_in_nI (by omega) (by decide), vp_in_nI hA (by decide)⟩ z))
  rw [ix128, nI_clamp (by omega)]
  exact ⟨vp_in_nI (by omega) (by decide), rfl, q⟩
/-- a row of the table -/
def Rw (c : Nat) (ω : Om) (h N : Nat) (f : Nat → Int) : Prop := ∀ B, B < 2 ^ N → ω.2 c (h * 128 + B) = jI (f B)
def Bf (N : Nat) (f : Nat → Int) : Prop := ∀ B, B < 2 ^ N → -1000000000000 < f B ∧ f B < 1000000000000
theorem Rw.fr {A B : List Nat} {c h N : Nat} {f : Nat → Int} {ω ω' : Om} (hr : Rw c ω h N f) (hF : Fr A B ω ω') (hc : B.contains c = false) : Rw c ω' h N f := by
  intro S hS
  rw [hF.2 c hc]
  exact hr S hS
theorem mul_bd {m : Nat} {u : Int} (hm : m < 100) (h0 : 0 ≤ u) (h1 : u ≤ 1000000) : 0 ≤ (m : Int) * u ∧ (m : Int) * u ≤ 100000000 := by
  have a : (m : Int) * u ≤ 100 * u := Int.mul_le_mul_of_nonneg_right (by omega) h0
  have b : 0 ≤ (m : Int) * u := Int.mul_nonneg (by omega) h0
  omega
theorem t16w {ω : Om} {N nb h A n : Nat} {u : Int} {f : Nat → Int} {mv L : Nat → Nat} (hN : N ≤ 7) (hh : h ≤ 6) (hA : A < 2 ^ N) (hu : 0 ≤ u) (hu2 : u ≤ 1000000) (hn : n ≤ 28) (hG : Gf nb mv ω n L) (hL : ∀ i, i < n → L i < 128) (hmv : ∀ S, mv S < 100) (hnb : nb < 128) (hr : Rw 28 ω h N f) (hb : Bf N f) {Q : Int64 → Om → Prop} (q : ∀ r, r = mst (fun S => (mv S : Int) * u + f (dif A (dif S nb))) (fun c => dif c A = 0) L (f A) n → Q (jI r.1) (ui ω 20 5 (nI r.2))) : me_CtJ 16 [.ref 20, .ref 27, .int (nI h), .int (nI A), .long (jI u)] ω Q := by
  have h7 := pow7 hN
  obtain ⟨V, eV⟩ : ∃ V, V = fun S => (mv S : Int) * u + f (dif A (dif S nb)) := ⟨_, rfl⟩
  rw [← eV] at q
  have bV : ∀ S, Bd (V S) := by
    intro S
    rw [eV]
    have a := mul_bd (hmv S) hu hu2
    have b := hb (dif A (dif S nb)) (dif_lt hA)
    show -1000000000000000 < (mv S : Int) * u + f (dif A (dif S nb)) ∧ (mv S : Int) * u + f (dif A (dif S nb)) < 1000000000000000
    omega
  have bM : ∀ i, Bd (mst V (fun c => dif c A = 0) L (f A) i).1 := by
    intro i
    induction i with
    | zero =>
      have b := hb A hA
      show -1000000000000000 < f A ∧ f A < 1000000000000000
      omega
    | succ i ih =>
      by_cases c : dif (L i) A = 0 ∧ (mst V (fun c => dif c A = 0) L (f A) i).1 < V (L i)
      · rw [mst_in c]; exact bV _
      · rw [mst_out c]; exact ih
  have key : ∀ k i, i + k = n → me_W 16 16 [some (.ref 20), some (.ref 27), some (.int (nI h)), some (.int (nI A)), some (.long (jI u)), none, some (.long (jI (mst V (fun c => dif c A = 0) L (f A) i).1)), none, some (.int (nI i)), none, none] [] (ui ω 20 5 (nI (mst V (fun c => dif c A = 0) L (f A) i).2)) (fun r ω' => ∃ v : Int64, r = some (.long v) ∧ Q v ω') := by
    intro k
    induction k with
    | zero =>
      intro i hi
      obtain rfl : i = n := by omega
      have e1 : (ui ω 20 5 (nI (mst V (fun c => dif c A = 0) L (f A) i).2)).1 20 4 = nI i := hG.1
      exact vl_16w_16 _ _ _ _ _ _ (br_t (by rw [e1]; exact Int32.le_refl _) ⟨_, rfl, q _ rfl⟩)
    | succ k ih =>
      intro i hi
      have e1 : (ui ω 20 5 (nI (mst V (fun c => dif c A = 0) L (f A) i).2)).1 20 4 = nI n := hG.1
      obtain ⟨g1, g2, g3⟩ := hG.2 i (by omega)
      have e2 : (ui ω 20 5 (nI (mst V (fun c => dif c A = 0) L (f A) i).2)).1 21 i = nI (L i) := g1
      have e3 : (ui ω 20 5 (nI (mst V (fun c => dif c A = 0) L (f A) i).2)).1 22 i = nI (dif (L i) nb) := g2
      have e4 : (ui ω 20 5 (nI (mst V (fun c => dif c A = 0) L (f A) i).2)).2 23 i = jI (mv (L i) : Int) := g3
      have vi : vp_in (nI i) 28 := vp_in_nI (by omega) (by decide)
      have hLi := hL i (by omega)
      have i1 := ih (i + 1) (by omega)
      have hd : dif (L i) nb < 128 := dif_lt (n := 7) hLi
      have hd2 : dif A (dif (L i) nb) < 2 ^ N := dif_lt hA
      refine vl_16w_16 _ _ _ _ _ _ (br_f (by rw [e1]; exact nI_ge (by omega) (by omega)) (br_f (nI_ge (b := 28) (by omega) (by decide)) ⟨vi, ?_⟩))
      rw [nI_clamp (by omega), e2, e3, e4, nI_1, dif_I hLi (by omega), dif_I (by omega) hd]
      refine ⟨fun c => ⟨vi, vi, t58w hh (by omega) ?_⟩, fun c => ?_⟩
      · have c' : dif (L i) A = 0 := (nI_eq (b := 0) (Nat.lt_trans (dif_lt (n := 7) hLi) (by decide)) (by decide)).mp c
        have er : (ui ω 20 5 (nI (mst V (fun c => dif c A = 0) L (f A) i).2)).2 28 (h * 128 + dif A (dif (L i) nb)) = jI (f (dif A (dif (L i) nb))) := hr _ hd2
        have ev : jI (mv (L i) : Int) * jI u + jI (f (dif A (dif (L i) nb))) = jI (V (L i)) := by
          rw [jI_mul, jI_add, eV]
        rw [er, ev]
        refine ⟨fun c2 => ?_, fun c2 => ⟨vi, ?_⟩⟩
        · have := (jI_cle (bV _) (bM i)).mp c2
          rw [mst_out (fun z => by omega)] at i1
          exact i1
        · have : (mst V (fun c => dif c A = 0) L (f A) i).1 < V (L i) := by
            by_cases z : (mst V (fun c => dif c A = 0) L (f A) i).1 < V (L i)
            · exact z
            · exact absurd ((jI_cle (bV _) (bM i)).mpr (by omega)) c2
          rw [mst_in ⟨c', this⟩] at i1
          rw [e2, ui_ui]
          exact i1
      · have c' : ¬ dif (L i) A = 0 := fun z => c (by rw [z]; rfl)
        rw [mst_out (fun z => c' z.1)] at i1
        exact i1
  refine vc_16w ω (nI h) (nI A) (jI u) (t58w hh (by omega) ?_)
  rw [hr A hA]
  exact key n 0 (by omega)
/-- with the choices gathered for an hour and a thing -/
theorem u16w {ω : Om} {N nb : Nat} {kd : Nat → Int32} {sk hm : Nat → Nat} (hp : HP N nb kd sk hm) {H t h A n : Nat} (ht : t < 4) {u : Int} {f : Nat → Int} {L : Nat → Nat} (hh : h ≤ 6) (hA : A < 2 ^ N) (hu : 0 ≤ u) (hu2 : u ≤ 1000000) (hn : n ≤ 28) (hG : Gf nb (mnd N (hm t) (gM kd sk t H)) ω n L) (hI : GI (P2 (hm t) (alN N (hm t) kd (gM kd sk t H) H) 7 0) n L) (hr : Rw 28 ω h N f) (hb : Bf N f) (hf : Mnt N f) {Q : Int64 → Om → Prop} (q : ∀ p, Opt N kd H A (vA N nb (hm t) (gM kd sk t H) u f A) p → Q (jI (mxU (Alw kd H A) (vA N nb (hm t) (gM kd sk t H) u f A) (2 ^ N))) (ui ω 20 5 (nI p))) : me_CtJ 16 [.ref 20, .ref 27, .int (nI h), .int (nI A), .long (jI u)] ω Q := by
  obtain ⟨hN, hnb, hk, hsk, hhm⟩ := id hp
  have h7 := pow7 hN
  have hL : ∀ i, i < n → L i < 128 := by
    intro i hi
    rcases hI.1 i hi with ⟨s, hs, -, e⟩ | ⟨a, ha, b, hb, -, -, -, e⟩
    · rw [e]; exact (ky_1 s hs).2.2
    · rw [e]; exact (ky_2 a ha b hb).2.2
  refine t16w hN hh hA hu hu2 hn hG hL (fun S => Nat.lt_of_le_of_lt (mnd_le _ _ _ S) (hhm t ht)) (by omega) hr hb (fun r er => ?_)
  have c := core (nb := nb) (hv := hm t) (kd := kd) (g := gM kd sk t H) (H := H) (A := A) (u := u) hN hA hf hu hI
  have e : mst (vA N nb (hm t) (gM kd sk t H) u f A) (fun c => dif c A = 0) L (f A) n = r := er.symm
  rw [e] at c
  rw [c.2]
  exact q r.2 c.1
