/-! THE CLASS'S CHOICES ARE ENOUGH: pure -/
theorem mnd_1 {N hv s : Nat} {g : Nat → Nat} (hs : s < N) : mnd N hv g (2 ^ s) = if g s < hv then g s else hv := by
  unfold mnd
  rw [smN_1, if_pos hs]
  split <;> split <;> omega
theorem mnd_2 {N hv h l : Nat} {g : Nat → Nat} (hl : l < h) (hh : h < N) : mnd N hv g (2 ^ h ||| 2 ^ l) = boN hv (if g l < hv then g l else hv) (if g h < hv then g h else hv) := by
  unfold mnd boN
  rw [smN_2 hl, smN_1, smN_1, if_pos hh, if_pos (by omega : l < N)]
  repeat' split
  all_goals omega
theorem bo_le (hv a b : Nat) : boN hv a b ≤ a + b ∧ boN hv a b ≤ hv := by
  unfold boN
  split <;> omega
theorem p2_bit {s i : Nat} (h : (2 ^ s).testBit i = true) : s = i := by
  rw [Nat.testBit_two_pow] at h
  exact of_decide_eq_true h
theorem p2_bit2 {h l i : Nat} (q : (2 ^ h ||| 2 ^ l).testBit i = true) : h = i ∨ l = i := by
  rw [Nat.testBit_or, Bool.or_eq_true] at q
  exact q.imp p2_bit p2_bit
theorem bit_1 (s : Nat) : (2 ^ s).testBit s = true := by
  rw [Nat.testBit_two_pow]
  exact decide_eq_true rfl
theorem bit_h (h l : Nat) : (2 ^ h ||| 2 ^ l).testBit h = true := by
  rw [Nat.testBit_or, bit_1]; rfl
theorem bit_l (h l : Nat) : (2 ^ h ||| 2 ^ l).testBit l = true := by
  rw [Nat.testBit_or, bit_1, Bool.or_true]
theorem sub_lt2 {S A N : Nat} (h : ∀ i, S.testBit i = true → A.testBit i = true) (hA : A < 2 ^ N) : S < 2 ^ N := by
  refine Nat.lt_pow_two_of_testBit S (fun i hi => ?_)
  cases q : S.testBit i
  · rfl
  · have := bit_lt hA (h i q)
    omega
theorem P2_alw {N hv : Nat} {kd : Nat → Int32} {g : Nat → Nat} {H A S h l : Nat} (hA : A < 2 ^ N) (q : P2 hv (alN N hv kd g H) h l S) (h0 : dif S A = 0) : S < 2 ^ N ∧ Alw kd H A S := by
  have hb := dif_0.mp h0
  refine ⟨sub_lt2 hb hA, ?_⟩
  rcases q with ⟨s, hs, ha, rfl⟩ | ⟨h', hh', l', hl', -, c1, c2, rfl⟩
  · refine ⟨by rw [(ky_1 s hs).2.1]; omega, fun i hi hib => ⟨hb i hib, ?_⟩⟩
    rw [← p2_bit hib]
    exact (al_pos ha).2
  · have b := bo_le hv (alN N hv kd g H l') (alN N hv kd g H h')
    have m1 : mayN N kd H l' := al_pos (g := g) (hv := hv) (by omega)
    have m2 : mayN N kd H h' := al_pos (g := g) (hv := hv) (by omega)
    refine ⟨by rw [(ky_2 h' hh' l' hl').2.1]; omega, fun i hi hib => ⟨hb i hib, ?_⟩⟩
    rcases p2_bit2 hib with e | e
    · rw [← e]; exact m2.2
    · rw [← e]; exact m1.2
/-- what a choice mends is what it was gathered with -/
theorem P1_mnd {N hv : Nat} {kd : Nat → Int32} {g : Nat → Nat} {H s : Nat} (ha : 0 < alN N hv kd g H s) : mnd N hv g (2 ^ s) = alN N hv kd g H s := by
  have m := al_pos ha
  rw [mnd_1 m.1, al_y m]
theorem P2_mnd {N hv : Nat} {kd : Nat → Int32} {g : Nat → Nat} {H h l : Nat} (hl : l < h) (a1 : 0 < alN N hv kd g H l) (a2 : 0 < alN N hv kd g H h) : mnd N hv g (2 ^ h ||| 2 ^ l) = boN hv (alN N hv kd g H l) (alN N hv kd g H h) := by
  have m1 := al_pos a1
  have m2 := al_pos a2
  rw [mnd_2 hl m2.1, al_y m1, al_y m2]
/-- whoever is left out is not wanted -/
theorem cov {N nb hv : Nat} {kd : Nat → Int32} {g : Nat → Nat} {H A : Nat} {u : Int} {f : Nat → Int} (hN : N ≤ 7) (hA : A < 2 ^ N) (hf : Mnt N f) (hu : 0 ≤ u) {S : Nat} (hS : S < 2 ^ N) (hP : Alw kd H A S) : (P2 hv (alN N hv kd g H) 7 0 S ∧ dif S A = 0) ∨ vA N nb hv g u f A S ≤ f A ∨ ∃ T, P2 hv (alN N hv kd g H) 7 0 T ∧ dif T A = 0 ∧ vA N nb hv g u f A S ≤ vA N nb hv g u f A T ∧ kyS T < kyS S := by
  have h7 := pow7 hN
  have ok : dif S A = 0 := dif_0.mpr (fun i hi => (hP.2 i (by have := bit_lt hS hi; omega) hi).1)
  have lowA : ∀ T, f (dif A (dif T nb)) ≤ f A := fun T => hf _ _ (dif_lt hA) hA (by
    have := dif_sub (Sb.o A) (C := dif T nb) (D := 0) (fun i hi => by rw [Nat.zero_testBit] at hi; cases hi)
    rw [dif_z] at this
    exact this)
  have zero : mnd N hv g S = 0 → vA N nb hv g u f A S ≤ f A := by
    intro e
    unfold vA
    rw [e]
    have := lowA S
    simp
    exact this
  rcases two_of (by omega) hP.1 with e | ⟨s, hs, e⟩ | ⟨h, hh, l, hl, e⟩
  · refine Or.inr (Or.inl ?_)
    rw [e, vA_0]
    exact Int.le_refl _
  · subst e
    have hsN := bit_lt hS (bit_1 s)
    have m : mayN N kd H s := ⟨hsN, (hP.2 s hs (bit_1 s)).2⟩
    by_cases c : 0 < alN N hv kd g H s
    · exact Or.inl ⟨Or.inl ⟨s, hs, c, rfl⟩, ok⟩
    · refine Or.inr (Or.inl (zero ?_))
      rw [mnd_1 hsN, ← al_y (kd := kd) (H := H) m]
      omega
  · subst e
    have hhN := bit_lt hS (bit_h h l)
    have m1 : mayN N kd H l := ⟨by omega, (hP.2 l (by omega) (bit_l h l)).2⟩
    have m2 : mayN N kd H h := ⟨hhN, (hP.2 h hh (bit_h h l)).2⟩
    have em : mnd N hv g (2 ^ h ||| 2 ^ l) = boN hv (alN N hv kd g H l) (alN N hv kd g H h) := by rw [mnd_2 hl hhN, al_y m1, al_y m2]
    have one : ∀ s, (s = h ∨ s = l) → boN hv (alN N hv kd g H l) (alN N hv kd g H h) ≤ alN N hv kd g H s → vA N nb hv g u f A (2 ^ h ||| 2 ^ l) ≤ f A ∨ ∃ T, P2 hv (alN N hv kd g H) 7 0 T ∧ dif T A = 0 ∧ vA N nb hv g u f A (2 ^ h ||| 2 ^ l) ≤ vA N nb hv g u f A T ∧ kyS T < kyS (2 ^ h ||| 2 ^ l) := by
      intro s hsl hb
      have hs : s < 7 := by omega
      have hbit : (2 ^ h ||| 2 ^ l).testBit s = true := by
        rcases hsl with q | q
        · rw [q]; exact bit_h h l
        · rw [q]; exact bit_l h l
      by_cases c : 0 < alN N hv kd g H s
      · refine Or.inr ⟨2 ^ s, Or.inl ⟨s, hs, c, rfl⟩, dif_0.mpr (fun i hi => ?_), ?_, ?_⟩
        · rw [← p2_bit hi]
          exact (hP.2 s hs hbit).1
        · have e1 := P1_mnd c
          have e2 : f (dif A (dif (2 ^ h ||| 2 ^ l) nb)) ≤ f (dif A (dif (2 ^ s) nb)) := hf _ _ (dif_lt hA) (dif_lt hA) (dif_sub (Sb.o A) (dif_sub (fun i hi => by rw [← p2_bit hi]; exact hbit) (Sb.o nb)))
          unfold vA
          rw [em, e1]
          have e3 : ((boN hv (alN N hv kd g H l) (alN N hv kd g H h) : Nat) : Int) * u ≤ ((alN N hv kd g H s : Nat) : Int) * u := Int.mul_le_mul_of_nonneg_right (by omega) hu
          omega
        · have k1 := (ky_1 s hs).1
          have k2 := (ky_2 h hh l hl).1
          have k3 := (ky_1 s hs).2.2
          have p1 : 0 < 2 ^ h := Nat.pow_pos (by decide)
          have p3 : 0 < 2 ^ l := Nat.pow_pos (by decide)
          omega
      · refine Or.inl (zero ?_)
        rw [em]
        omega
    by_cases c1 : alN N hv kd g H l < boN hv (alN N hv kd g H l) (alN N hv kd g H h)
    · by_cases c2 : alN N hv kd g H h < boN hv (alN N hv kd g H l) (alN N hv kd g H h)
      · exact Or.inl ⟨Or.inr ⟨h, hh, l, hl, Or.inl hh, c1, c2, rfl⟩, ok⟩
      · exact Or.inr (one h (Or.inl rfl) (by omega))
    · exact Or.inr (one l (Or.inr rfl) (by omega))
theorem core {N nb hv : Nat} {kd : Nat → Int32} {g : Nat → Nat} {H A : Nat} {u : Int} {f : Nat → Int} (hN : N ≤ 7) (hA : A < 2 ^ N) (hf : Mnt N f) (hu : 0 ≤ u) {n : Nat} {L : Nat → Nat} (hG : GI (P2 hv (alN N hv kd g H) 7 0) n L) : Opt N kd H A (vA N nb hv g u f A) (mst (vA N nb hv g u f A) (fun c => dif c A = 0) L (f A) n).2 ∧ (mst (vA N nb hv g u f A) (fun c => dif c A = 0) L (f A) n).1 = mxU (Alw kd H A) (vA N nb hv g u f A) (2 ^ N) := by
  obtain ⟨G1, G2, G3⟩ := hG
  have hb := mst_b (v := vA N nb hv g u f A) (ok := fun c => dif c A = 0) (m0 := f A) G3 n (Nat.le_refl _)
  obtain ⟨b1, b2, b3⟩ := hb
  generalize mst (vA N nb hv g u f A) (fun c => dif c A = 0) L (f A) n = r at b1 b2 b3 ⊢
  have hp : r.2 < 2 ^ N ∧ Alw kd H A r.2 ∧ r.1 = vA N nb hv g u f A r.2 := by
    rcases b1 with ⟨e1, e2⟩ | ⟨⟨j, hj, e1⟩, e2, e3, -⟩
    · rw [e1, vA_0]
      exact ⟨Nat.pow_pos (by decide), Alw_0 kd H A, e2⟩
    · have q := P2_alw hA (by rw [e1]; exact G1 j hj) e2
      exact ⟨q.1, q.2, e3⟩
  have k0 : kyS 0 = 0 := by decide
  have z0 : r.1 = f A → kyS r.2 = 0 := by
    intro e
    rcases b1 with ⟨e1, e2⟩ | ⟨-, -, -, e4⟩
    · rw [e1]; exact k0
    · omega
  have all : ∀ S, S < 2 ^ N → Alw kd H A S → vA N nb hv g u f A S < r.1 ∨ (vA N nb hv g u f A S = r.1 ∧ kyS r.2 ≤ kyS S) := by
    intro S hS hP
    rcases cov (nb := nb) (hv := hv) (g := g) (u := u) hN hA hf hu hS hP with ⟨q, ok⟩ | q | ⟨T, q, ok, c1, c2⟩
    · obtain ⟨j, hj, e⟩ := G2 S q
      have := b2 j hj (by rw [e]; exact ok)
      rw [e] at this
      exact this
    · by_cases c : vA N nb hv g u f A S < r.1
      · exact Or.inl c
      · have := z0 (by omega)
        exact Or.inr ⟨by omega, by omega⟩
    · obtain ⟨j, hj, e⟩ := G2 T q
      have := b2 j hj (by rw [e]; exact ok)
      rw [e] at this
      rcases this with z | z
      · exact Or.inl (by omega)
      · by_cases c : vA N nb hv g u f A S < r.1
        · exact Or.inl c
        · exact Or.inr ⟨by omega, by omega⟩
  refine ⟨⟨hp.1, hp.2.1, ?_⟩, (mxU_eq ?_ (fun S hS hP => ?_) ⟨r.2, Or.inr ⟨hp.1, hp.2.1⟩, hp.2.2.symm⟩).symm⟩
  · rw [← hp.2.2]; exact all
  · rw [vA_0]; exact b3
  · rcases all S hS hP with z | z <;> omega
