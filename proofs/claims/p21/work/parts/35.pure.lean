/-! SETS, THE BEST OF THEM: pure -/
theorem dif_bit (a b i : Nat) : (dif a b).testBit i = (a.testBit i && !b.testBit i) := by
  unfold dif
  rw [Nat.testBit_xor, Nat.testBit_and]
  cases a.testBit i <;> cases b.testBit i <;> rfl
theorem dif_lt {a b n : Nat} (h : a < 2 ^ n) : dif a b < 2 ^ n := Nat.xor_lt_two_pow h (Nat.lt_of_le_of_lt Nat.and_le_left h)
theorem dif_I {a b : Nat} (ha : a < 128) (hb : b < 128) : nI a &&& (nI b ^^^ (-1)) = nI (dif a b) := sp_eq ha hb
theorem dif_0 {a b : Nat} : dif a b = 0 ↔ ∀ i, a.testBit i = true → b.testBit i = true := by
  constructor
  · intro h i hi
    have := congrArg (fun x => Nat.testBit x i) h
    simp only [dif_bit, Nat.zero_testBit, hi, Bool.true_and] at this
    cases q : b.testBit i
    · rw [q] at this; cases this
    · rfl
  · intro h
    refine Nat.eq_of_testBit_eq (fun i => ?_)
    rw [dif_bit, Nat.zero_testBit]
    cases q : a.testBit i
    · rfl
    · rw [h i q]; rfl
theorem dif_z (a : Nat) : dif a 0 = a := by
  refine Nat.eq_of_testBit_eq (fun i => ?_)
  rw [dif_bit, Nat.zero_testBit]
  cases a.testBit i <;> rfl
theorem z_dif (a : Nat) : dif 0 a = 0 := by
  refine Nat.eq_of_testBit_eq (fun i => ?_)
  rw [dif_bit, Nat.zero_testBit]
  rfl
/-- who sleeps, of those who are gone, and back -/
theorem dif_dif {N W : Nat} (hW : W < 2 ^ N) : dif (2 ^ N - 1) (dif (2 ^ N - 1) W) = W := by
  refine Nat.eq_of_testBit_eq (fun i => ?_)
  rw [dif_bit, dif_bit, Nat.testBit_two_pow_sub_one]
  by_cases c : i < N
  · rw [decide_eq_true c]
    cases W.testBit i <;> rfl
  · rw [decide_eq_false c]
    rw [Nat.testBit_lt_two_pow (Nat.lt_of_lt_of_le hW (Nat.pow_le_pow_right (by decide) (by omega : N ≤ i)))]
    rfl
theorem E_lt (N : Nat) : 2 ^ N - 1 < 2 ^ N := Nat.sub_lt (Nat.pow_pos (by decide)) (by decide)
/-- who sleeps then -/
theorem gn_dif {k : Nat → Int32} {N S W nb : Nat} (hS : S < 2 ^ N) (hk : ∀ s, s < N → (nb.testBit s = true ↔ k s = 1)) : dif (2 ^ N - 1) (gn k S W N) = dif (dif (2 ^ N - 1) W) (dif S nb) := by
  rw [gn_eq hS hk]
  refine Nat.eq_of_testBit_eq (fun i => ?_)
  rw [dif_bit, dif_bit, dif_bit, dif_bit, Nat.testBit_or, Nat.testBit_xor, Nat.testBit_and]
  cases (2 ^ N - 1).testBit i <;> cases W.testBit i <;> cases S.testBit i <;> cases nb.testBit i <;> rfl
theorem gn_lt2 {k : Nat → Int32} {N S W nb : Nat} (hS : S < 2 ^ N) (hW : W < 2 ^ N) (hk : ∀ s, s < N → (nb.testBit s = true ↔ k s = 1)) : gn k S W N < 2 ^ N := by
  rw [gn_eq hS hk]
  exact Nat.or_lt_two_pow hW (dif_lt hS)
set_option maxRecDepth 100000 in
theorem on_cn : ∀ w, w < 128 → onF (nI w) = nI (cn w) := by decide +kernel
def kyS (S : Nat) : Nat := cn S * 128 + S
theorem cn_le (S : Nat) : cn S ≤ 7 := by
  unfold cn
  repeat' split
  all_goals omega
def isTwo (S : Nat) : Bool := Nat.beq S 0 || (List.range 7).any (fun s => Nat.beq S (2 ^ s)) || (List.range 7).any (fun h => (List.range h).any (fun l => Nat.beq S (2 ^ h ||| 2 ^ l)))
theorem two0 : ∀ S, S < 128 → (Nat.ble 3 (cn S) || isTwo S) = true := by decide +kernel
theorem two_of {S : Nat} (hS : S < 128) (h : cn S ≤ 2) : S = 0 ∨ (∃ s, s < 7 ∧ S = 2 ^ s) ∨ ∃ h, h < 7 ∧ ∃ l, l < h ∧ S = 2 ^ h ||| 2 ^ l := by
  have h0 := two0 S hS
  have h1 : Nat.ble 3 (cn S) = false := by
    cases q : Nat.ble 3 (cn S)
    · rfl
    · exact absurd (Nat.le_of_ble_eq_true q) (by omega)
  rw [h1, Bool.false_or] at h0
  unfold isTwo at h0
  rw [Bool.or_eq_true, Bool.or_eq_true, List.any_eq_true, List.any_eq_true] at h0
  rcases h0 with (h0 | ⟨s, hs, e⟩) | ⟨h, hh, e⟩
  · exact Or.inl (Nat.eq_of_beq_eq_true h0)
  · exact Or.inr (Or.inl ⟨s, List.mem_range.mp hs, Nat.eq_of_beq_eq_true e⟩)
  · obtain ⟨l, hl, e⟩ := List.any_eq_true.mp e
    exact Or.inr (Or.inr ⟨h, List.mem_range.mp hh, l, List.mem_range.mp hl, Nat.eq_of_beq_eq_true e⟩)
theorem ky_1 : ∀ s, s < 7 → kyS (2 ^ s) = 128 + 2 ^ s ∧ cn (2 ^ s) = 1 ∧ 2 ^ s < 128 := by decide +kernel
theorem ky_2 : ∀ h, h < 7 → ∀ l, l < h → kyS (2 ^ h ||| 2 ^ l) = 256 + 2 ^ h + 2 ^ l ∧ cn (2 ^ h ||| 2 ^ l) = 2 ∧ 2 ^ h ||| 2 ^ l < 128 := by decide +kernel
theorem ky_11 : ∀ s, s < 7 → ∀ j, j < s → kyS (2 ^ j) < kyS (2 ^ s) := by decide +kernel
theorem ky_22a : ∀ h, h < 7 → ∀ l, l < h → ∀ h', h' < h → ∀ l', l' < h' → kyS (2 ^ h' ||| 2 ^ l') < kyS (2 ^ h ||| 2 ^ l) := by decide +kernel
theorem ky_22b : ∀ h, h < 7 → ∀ l, l < h → ∀ l', l' < l → kyS (2 ^ h ||| 2 ^ l') < kyS (2 ^ h ||| 2 ^ l) := by decide +kernel
theorem ky_22 (h : Nat) (hh : h < 7) (l : Nat) (hl : l < h) (h' : Nat) (_ : h' < 7) (l' : Nat) (hl' : l' < h') (q : h' < h ∨ (h' = h ∧ l' < l)) : kyS (2 ^ h' ||| 2 ^ l') < kyS (2 ^ h ||| 2 ^ l) := by
  rcases q with q | ⟨q, q2⟩
  · exact ky_22a h hh l hl h' q l' hl'
  · subst q
    exact ky_22b h' hh l hl l' q2
/-! sums over one, over two -/
theorem smN_0 {g : Nat → Nat} : ∀ n, smN 0 g n = 0
  | 0 => rfl
  | n + 1 => by
    unfold smN
    rw [smN_0 n, Nat.zero_testBit]
    rfl
theorem smN_1 {g : Nat → Nat} {s : Nat} : ∀ n, smN (2 ^ s) g n = if s < n then g s else 0
  | 0 => by rw [if_neg (by omega)]; rfl
  | n + 1 => by
    unfold smN
    rw [smN_1 n, Nat.testBit_two_pow]
    by_cases c : s = n
    · subst c
      rw [if_neg (Nat.lt_irrefl _), if_pos (Nat.lt_succ_self _), if_pos (by simp)]
      omega
    · have e : ¬ (decide (s = n) = true) := by simp [c]
      rw [if_neg e]
      by_cases d : s < n
      · rw [if_pos d, if_pos (by omega)]
        rfl
      · rw [if_neg d, if_neg (by omega)]
theorem smN_2 {g : Nat → Nat} {h l : Nat} (hl : l < h) : ∀ n, smN (2 ^ h ||| 2 ^ l) g n = smN (2 ^ h) g n + smN (2 ^ l) g n
  | 0 => rfl
  | n + 1 => by
    unfold smN
    rw [smN_2 hl n, Nat.testBit_or, Nat.testBit_two_pow, Nat.testBit_two_pow]
    by_cases c : h = n
    · have d : ¬ l = n := by omega
      simp [c, d]
      omega
    · by_cases d : l = n
      · simp [c, d]
        omega
      · simp [c, d]
/-! the greatest of some -/
theorem mxU_in {P : Nat → Prop} {V : Nat → Int} {j : Nat} (h : P j ∧ mxU P V j < V j) : mxU P V (j + 1) = V j := by
  show @ite _ (P j ∧ mxU P V j < V j) (Classical.propDecidable _) (V j) (mxU P V j) = _
  rw [if_pos h]
theorem mxU_out {P : Nat → Prop} {V : Nat → Int} {j : Nat} (h : ¬ (P j ∧ mxU P V j < V j)) : mxU P V (j + 1) = mxU P V j := by
  show @ite _ (P j ∧ mxU P V j < V j) (Classical.propDecidable _) (V j) (mxU P V j) = _
  rw [if_neg h]
theorem mxU_ge {P : Nat → Prop} {V : Nat → Int} : ∀ n, V 0 ≤ mxU P V n ∧ ∀ S, S < n → P S → V S ≤ mxU P V n
  | 0 => ⟨Int.le_refl _, fun S hS => absurd hS (by omega)⟩
  | n + 1 => by
    obtain ⟨h1, h2⟩ := mxU_ge (P := P) (V := V) n
    by_cases c : P n ∧ mxU P V n < V n
    · rw [mxU_in c]
      refine ⟨by omega, fun S hS hP => ?_⟩
      by_cases e : S = n
      · rw [e]; exact Int.le_refl _
      · have := h2 S (by omega) hP
        omega
    · rw [mxU_out c]
      refine ⟨h1, fun S hS hP => ?_⟩
      by_cases e : S = n
      · subst e
        by_cases d : mxU P V S < V S
        · exact absurd ⟨hP, d⟩ c
        · omega
      · exact h2 S (by omega) hP
theorem mxU_at {P : Nat → Prop} {V : Nat → Int} : ∀ n, ∃ S, (S = 0 ∨ (S < n ∧ P S)) ∧ V S = mxU P V n
  | 0 => ⟨0, Or.inl rfl, rfl⟩
  | n + 1 => by
    by_cases c : P n ∧ mxU P V n < V n
    · rw [mxU_in c]
      exact ⟨n, Or.inr ⟨by omega, c.1⟩, rfl⟩
    · rw [mxU_out c]
      obtain ⟨S, h1, h2⟩ := mxU_at (P := P) (V := V) n
      exact ⟨S, h1.imp id (fun q => ⟨by omega, q.2⟩), h2⟩
theorem mxU_eq {P : Nat → Prop} {V : Nat → Int} {n : Nat} {m : Int} (h0 : V 0 ≤ m) (h1 : ∀ S, S < n → P S → V S ≤ m) (h2 : ∃ S, (S = 0 ∨ (S < n ∧ P S)) ∧ V S = m) : mxU P V n = m := by
  obtain ⟨g1, g2⟩ := mxU_ge (P := P) (V := V) n
  obtain ⟨S, e1, e2⟩ := mxU_at (P := P) (V := V) n
  obtain ⟨T, f1, f2⟩ := h2
  have a : mxU P V n ≤ m := by
    rw [← e2]
    rcases e1 with e1 | e1
    · rw [e1]; exact h0
    · exact h1 S e1.1 e1.2
  have b : m ≤ mxU P V n := by
    rw [← f2]
    rcases f1 with f1 | f1
    · rw [f1]; exact g1
    · exact g2 T f1.1 f1.2
  omega
theorem mxU_mono {P P' : Nat → Prop} {V V' : Nat → Int} {n : Nat} (h0 : V 0 ≤ V' 0) (h1 : ∀ S, S < n → P S → P' S ∧ V S ≤ V' S) : mxU P V n ≤ mxU P' V' n := by
  obtain ⟨g1, g2⟩ := mxU_ge (P := P') (V := V') n
  obtain ⟨S, e1, e2⟩ := mxU_at (P := P) (V := V) n
  rw [← e2]
  rcases e1 with e1 | e1
  · rw [e1]; omega
  · have a := h1 S e1.1 e1.2
    have b := g2 S e1.1 a.1
    omega
theorem mxU_congr {P P' : Nat → Prop} {V V' : Nat → Int} : ∀ n, V 0 = V' 0 → (∀ S, S < n → (P S ↔ P' S)) → (∀ S, S < n → P S → V S = V' S) → mxU P V n = mxU P' V' n
  | 0, h0, _, _ => h0
  | n + 1, h0, h1, h2 => by
    have ih := mxU_congr n h0 (fun S hS => h1 S (by omega)) (fun S hS => h2 S (by omega))
    have hP := h1 n (by omega)
    by_cases c : P n ∧ mxU P V n < V n
    · have e := h2 n (by omega) c.1
      rw [mxU_in c, mxU_in ⟨hP.mp c.1, by rw [← ih, ← e]; exact c.2⟩, e]
    · rw [mxU_out c, mxU_out (fun q => c ⟨hP.mpr q.1, by rw [ih, h2 n (by omega) (hP.mpr q.1)]; exact q.2⟩), ih]
/-! whom one may wake, of those asleep; what comes of it -/
theorem Alw_0 (kd : Nat → Int32) (H A : Nat) : Alw kd H A 0 := ⟨by decide, fun s _ h => by rw [Nat.zero_testBit] at h; cases h⟩
/-- the reference's word for it -/
theorem Al_alw {kd : Nat → Int32} {N H W S : Nat} (hN : N ≤ 7) (hS : S < 2 ^ N) : (Al kd S W H ∧ cn S ≤ 2) ↔ Alw kd H (dif (2 ^ N - 1) W) S := by
  unfold Al Alw MW
  constructor
  · intro ⟨h, h2⟩
    refine ⟨h2, fun s hs hb => ?_⟩
    obtain ⟨a, b⟩ := h s hs hb
    refine ⟨?_, b⟩
    rw [dif_bit, Nat.testBit_two_pow_sub_one, a, decide_eq_true (bit_lt hS hb)]
    rfl
  · intro ⟨h2, h⟩
    refine ⟨fun s hs hb => ?_, h2⟩
    obtain ⟨a, b⟩ := h s hs hb
    refine ⟨?_, b⟩
    rw [dif_bit] at a
    cases q : W.testBit s
    · rfl
    · rw [q] at a
      simp at a
theorem vA_0 {N nb hv : Nat} {g : Nat → Nat} {u : Int} {f : Nat → Int} {A : Nat} : vA N nb hv g u f A 0 = f A := by
  have e : mnd N hv g 0 = 0 := by
    unfold mnd
    rw [smN_0, if_neg (by omega)]
  unfold vA
  rw [e, z_dif, dif_z]
  simp
def Sb (A B : Nat) : Prop := ∀ i, A.testBit i = true → B.testBit i = true
def Mnt (N : Nat) (f : Nat → Int) : Prop := ∀ A B, A < 2 ^ N → B < 2 ^ N → Sb A B → f A ≤ f B
theorem dif_sub {A B C D : Nat} (h : Sb A B) (h2 : Sb D C) : Sb (dif A C) (dif B D) := by
  intro i hi
  rw [dif_bit] at hi ⊢
  have hA : A.testBit i = true := by
    cases q : A.testBit i
    · rw [q] at hi; cases hi
    · rfl
  have hC : C.testBit i = false := by
    cases q : C.testBit i
    · rfl
    · rw [hA, q] at hi; cases hi
  have hD : D.testBit i = false := by
    cases q : D.testBit i
    · rfl
    · rw [h2 i q] at hC; cases hC
  rw [h i hA, hD]
  rfl
theorem Sb.o (A : Nat) : Sb A A := fun _ h => h
/-- the more sleep, the better -/
theorem mx_mono {N nb hv : Nat} {kd : Nat → Int32} {g : Nat → Nat} {u : Int} {f : Nat → Int} {H : Nat} (hf : Mnt N f) : Mnt N (fun A => mxU (Alw kd H A) (vA N nb hv g u f A) (2 ^ N)) := by
  intro A B hA hB hAB
  refine mxU_mono ?_ (fun S hS hP => ⟨⟨hP.1, fun s hs hb => ⟨hAB s (hP.2 s hs hb).1, (hP.2 s hs hb).2⟩⟩, ?_⟩)
  · rw [vA_0, vA_0]
    exact hf A B hA hB hAB
  · have := hf (dif A (dif S nb)) (dif B (dif S nb)) (dif_lt hA) (dif_lt hB) (dif_sub hAB (Sb.o _))
    unfold vA
    omega
/-! the class's choices -/
def mayN (N : Nat) (kd : Nat → Int32) (H s : Nat) : Prop := s < N ∧ (kd s = 3 → H < 4)
noncomputable def alN (N hv : Nat) (kd : Nat → Int32) (g : Nat → Nat) (H s : Nat) : Nat := @ite _ (mayN N kd H s) (Classical.propDecidable _) (if g s < hv then g s else hv) 0
theorem al_y {N hv : Nat} {kd : Nat → Int32} {g : Nat → Nat} {H s : Nat} (h : mayN N kd H s) : alN N hv kd g H s = if g s < hv then g s else hv := by
  show @ite _ (mayN N kd H s) (Classical.propDecidable _) (if g s < hv then g s else hv) 0 = _
  rw [if_pos h]
theorem al_n {N hv : Nat} {kd : Nat → Int32} {g : Nat → Nat} {H s : Nat} (h : ¬ mayN N kd H s) : alN N hv kd g H s = 0 := by
  show @ite _ (mayN N kd H s) (Classical.propDecidable _) (if g s < hv then g s else hv) 0 = _
  rw [if_neg h]
theorem al_pos {N hv : Nat} {kd : Nat → Int32} {g : Nat → Nat} {H s : Nat} (h : 0 < alN N hv kd g H s) : mayN N kd H s := by
  by_cases c : mayN N kd H s
  · exact c
  · rw [al_n c] at h
    exact absurd h (by omega)
def boN (hv a b : Nat) : Nat := if a + b < hv then a + b else hv
/-- the sets of one so far, of two so far -/
def P1 (al : Nat → Nat) (j S : Nat) : Prop := ∃ s, s < j ∧ 0 < al s ∧ S = 2 ^ s
def P2 (hv : Nat) (al : Nat → Nat) (h l S : Nat) : Prop := P1 al 7 S ∨ ∃ h', h' < 7 ∧ ∃ l', l' < h' ∧ (h' < h ∨ (h' = h ∧ l' < l)) ∧ al l' < boN hv (al l') (al h') ∧ al h' < boN hv (al l') (al h') ∧ S = 2 ^ h' ||| 2 ^ l'
def GI (P : Nat → Prop) (n : Nat) (L : Nat → Nat) : Prop := (∀ i, i < n → P (L i)) ∧ (∀ S, P S → ∃ i, i < n ∧ L i = S) ∧ ∀ i j, i < j → j < n → kyS (L i) < kyS (L j)
theorem GI.o {P : Nat → Prop} (h : ∀ S, ¬ P S) (L : Nat → Nat) : GI P 0 L := ⟨fun i hi => absurd hi (by omega), fun S hS => absurd hS (h S), fun i j _ hj => absurd hj (by omega)⟩
theorem GI.congr {P P' : Nat → Prop} {n : Nat} {L : Nat → Nat} (h : GI P n L) (e : ∀ S, P S ↔ P' S) : GI P' n L := ⟨fun i hi => (e _).mp (h.1 i hi), fun S hS => h.2.1 S ((e S).mpr hS), h.2.2⟩
theorem GI.add {P P' : Nat → Prop} {n c : Nat} {L : Nat → Nat} (h : GI P n L) (e : ∀ S, P' S ↔ (P S ∨ S = c)) (hk : ∀ S, P S → kyS S < kyS c) : GI P' (n + 1) (updN L n c) := by
  obtain ⟨h1, h2, h3⟩ := h
  have un : ∀ i, i < n → updN L n c i = L i := fun i hi => if_neg (by omega)
  have us : updN L n c n = c := if_pos rfl
  refine ⟨fun i hi => ?_, fun S hS => ?_, fun i j hij hj => ?_⟩
  · by_cases q : i = n
    · rw [q, us]; exact (e c).mpr (Or.inr rfl)
    · rw [un i (by omega)]; exact (e _).mpr (Or.inl (h1 i (by omega)))
  · rcases (e S).mp hS with q | q
    · obtain ⟨i, hi, ei⟩ := h2 S q
      exact ⟨i, by omega, by rw [un i hi]; exact ei⟩
    · exact ⟨n, by omega, by rw [us, q]⟩
  · rw [un i (by omega)]
    by_cases q : j = n
    · rw [q, us]; exact hk _ (h1 i (by omega))
    · rw [un j (by omega)]; exact h3 i j hij (by omega)
/-! the first of the best -/
noncomputable def mst (v : Nat → Int) (ok : Nat → Prop) (L : Nat → Nat) (m0 : Int) : Nat → Int × Nat
  | 0 => (m0, 0)
  | i + 1 => @ite _ (ok (L i) ∧ (mst v ok L m0 i).1 < v (L i)) (Classical.propDecidable _) (v (L i), L i) (mst v ok L m0 i)
theorem mst_in {v : Nat → Int} {ok : Nat → Prop} {L : Nat → Nat} {m0 : Int} {i : Nat} (h : ok (L i) ∧ (mst v ok L m0 i).1 < v (L i)) : mst v ok L m0 (i + 1) = (v (L i), L i) := by
  show @ite _ (ok (L i) ∧ (mst v ok L m0 i).1 < v (L i)) (Classical.propDecidable _) (v (L i), L i) (mst v ok L m0 i) = _
  rw [if_pos h]
theorem mst_out {v : Nat → Int} {ok : Nat → Prop} {L : Nat → Nat} {m0 : Int} {i : Nat} (h : ¬ (ok (L i) ∧ (mst v ok L m0 i).1 < v (L i))) : mst v ok L m0 (i + 1) = mst v ok L m0 i := by
  show @ite _ (ok (L i) ∧ (mst v ok L m0 i).1 < v (L i)) (Classical.propDecidable _) (v (L i), L i) (mst v ok L m0 i) = _
  rw [if_neg h]
def Bst (v : Nat → Int) (ok : Nat → Prop) (L : Nat → Nat) (m0 : Int) (i : Nat) (r : Int × Nat) : Prop := ((r.2 = 0 ∧ r.1 = m0) ∨ ((∃ j, j < i ∧ r.2 = L j) ∧ ok r.2 ∧ r.1 = v r.2 ∧ m0 < r.1)) ∧ (∀ j, j < i → ok (L j) → v (L j) < r.1 ∨ (v (L j) = r.1 ∧ kyS r.2 ≤ kyS (L j))) ∧ m0 ≤ r.1
theorem mst_b {v : Nat → Int} {ok : Nat → Prop} {L : Nat → Nat} {m0 : Int} {n : Nat} (hk : ∀ i j, i < j → j < n → kyS (L i) < kyS (L j)) : ∀ i, i ≤ n → Bst v ok L m0 i (mst v ok L m0 i)
  | 0, _ => ⟨Or.inl ⟨rfl, rfl⟩, fun j hj => absurd hj (by omega), Int.le_refl _⟩
  | i + 1, hi => by
    obtain ⟨h1, h2, h3⟩ := mst_b (v := v) (ok := ok) (m0 := m0) hk i (by omega)
    by_cases c : ok (L i) ∧ (mst v ok L m0 i).1 < v (L i)
    · rw [mst_in c]
      refine ⟨Or.inr ⟨⟨i, by omega, rfl⟩, c.1, rfl, ?_⟩, fun j hj hj2 => ?_, ?_⟩
      · show m0 < v (L i)
        omega
      · by_cases q : j = i
        · subst q
          exact Or.inr ⟨rfl, Nat.le_refl _⟩
        · refine Or.inl ?_
          show v (L j) < v (L i)
          rcases h2 j (by omega) hj2 with z | z <;> omega
      · show m0 ≤ v (L i)
        omega
    · rw [mst_out c]
      refine ⟨h1.imp id (fun ⟨⟨j, hj, e⟩, q⟩ => ⟨⟨j, by omega, e⟩, q⟩), fun j hj hj2 => ?_, h3⟩
      by_cases q : j = i
      · subst q
        by_cases d : v (L j) < (mst v ok L m0 j).1
        · exact Or.inl d
        · have e : ¬ (mst v ok L m0 j).1 < v (L j) := fun z => c ⟨hj2, z⟩
          refine Or.inr ⟨by omega, ?_⟩
          rcases h1 with ⟨z, _⟩ | ⟨⟨j', hj', z⟩, _⟩
          · rw [z]
            have : kyS 0 = 0 := by decide
            omega
          · rw [z]
            exact Nat.le_of_lt (hk j' j hj' (by omega))
      · exact h2 j (by omega) hj2
/-- a best set -/
def Opt (N : Nat) (kd : Nat → Int32) (H A : Nat) (V : Nat → Int) (p : Nat) : Prop := p < 2 ^ N ∧ Alw kd H A p ∧ ∀ S, S < 2 ^ N → Alw kd H A S → V S < V p ∨ (V S = V p ∧ kyS p ≤ kyS S)
