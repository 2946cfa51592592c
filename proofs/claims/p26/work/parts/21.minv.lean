/-! THE REFERENCE'S RANGES -/
def Mi (ω : Om) : Prop := (∃ N : Nat, N ≤ 7 ∧ ω.1 29 15 = nI N) ∧ (∃ H : Nat, H ≤ 6 ∧ ω.1 29 16 = nI H) ∧ (∃ W : Nat, W < 128 ∧ ω.1 29 17 = nI W) ∧ (∃ m : Nat, m ≤ 7 ∧ ω.1 29 9 = nI m ∧ ∀ k, k < m → ∃ s : Nat, s < 7 ∧ ω.1 33 k = nI s) ∧ (∃ L : Nat, L ≤ 55 ∧ ω.1 29 1 = nI L)
theorem Mi.sc {ω0 ω : Om} (hM : Mi ω0) (hs : Sc ω0 ω) : Mi ω := by
  obtain ⟨⟨N, hN, e1⟩, ⟨H, hH, e2⟩, ⟨W, hW, e3⟩, ⟨m, hm, e4, e5⟩, ⟨L, hL, e6⟩⟩ := hM
  refine ⟨⟨N, hN, (hs 29 15 rfl).trans e1⟩, ⟨H, hH, (hs 29 16 rfl).trans e2⟩, ⟨W, hW, (hs 29 17 rfl).trans e3⟩, ⟨m, hm, (hs 29 9 rfl).trans e4, fun k hk => ?_⟩, ⟨L, hL, (hs 29 1 rfl).trans e6⟩⟩
  obtain ⟨s, a, b⟩ := e5 k hk
  exact ⟨s, a, (hs 33 k rfl).trans b⟩
theorem Sc_n2 {ω0 ω : Om} (hs : Sc ω0 ω) {a : Int32} (c : ¬ ((1 : Int32) <<< ((ω.1 29 15) &&& 31)) ≤ a) : ¬ ((1 : Int32) <<< ((ω0.1 29 15) &&& 31)) ≤ a := by
  rw [← hs 29 15 rfl]; exact c
theorem in_w {x : Int32} {n m : Nat} (h : vp_in x n) (hm : n ≤ m) : vp_in x m := by
  rw [vp_in_iff] at *
  omega
theorem in_4b {x y : Int32} (h : vp_in x 6) (h2 : vp_in y 4) : vp_in ((4 : Int32) * x + y) 24 := by
  obtain ⟨a, ha, rfl⟩ := vp_in_of h (by decide)
  obtain ⟨b, hb, rfl⟩ := vp_in_of h2 (by decide)
  rw [ix4']
  exact vp_in_nI (by omega) (by decide)
theorem in_4s {x y : Int32} (h : vp_in x 7) (h2 : vp_in y 4) : vp_in ((4 : Int32) * x + y) 28 := by
  obtain ⟨a, ha, rfl⟩ := vp_in_of h (by decide)
  obtain ⟨b, hb, rfl⟩ := vp_in_of h2 (by decide)
  rw [ix4']
  exact vp_in_nI (by omega) (by decide)
theorem in_128 {x y : Int32} (h : vp_in x 7) (h2 : vp_in y 128) : vp_in ((128 : Int32) * x + y) 896 := by
  obtain ⟨a, ha, rfl⟩ := vp_in_of h (by decide)
  obtain ⟨b, hb, rfl⟩ := vp_in_of h2 (by decide)
  rw [ix128']
  exact vp_in_nI (by omega) (by decide)
theorem in_128s {x y : Int32} (h : vp_in x 6) (h2 : vp_in y 128) : vp_in ((128 : Int32) * (x + 1) + y) 896 := by
  obtain ⟨a, ha, rfl⟩ := vp_in_of h (by decide)
  rw [nI_1]
  exact in_128 (vp_in_nI (by omega) (by decide)) h2
theorem in_768 {x : Int32} (h : vp_in x 128) : vp_in ((768 : Int32) + x) 896 := by
  obtain ⟨a, ha, rfl⟩ := vp_in_of h (by decide)
  rw [show (768 : Int32) = nI 768 from rfl, nI_add]
  exact vp_in_nI (by omega) (by decide)
theorem in_5m {x : Int32} (h : vp_in x 6) : vp_in ((5 : Int32) - x) 7 := by
  obtain ⟨a, ha, rfl⟩ := vp_in_of h (by decide)
  rw [show (5 : Int32) = nI 5 from rfl, pk_sub (by omega)]
  exact vp_in_nI (by omega) (by decide)
theorem in_6m {ω : Om} (hM : Mi ω) : vp_in ((6 : Int32) - ω.1 29 16) 7 := by
  obtain ⟨-, ⟨H, hH, e2⟩, -⟩ := hM
  rw [e2, show (6 : Int32) = nI 6 from rfl, pk_sub (by omega)]
  exact vp_in_nI (by omega) (by decide)
theorem in_H {ω : Om} (hM : Mi ω) : vp_in (ω.1 29 16) 7 := by
  obtain ⟨-, ⟨H, hH, e2⟩, -⟩ := hM
  rw [e2]
  exact vp_in_nI (by omega) (by decide)
theorem in_H6 {ω : Om} (hM : Mi ω) (c : ¬ ω.1 29 16 = 6) : vp_in (ω.1 29 16) 6 := by
  obtain ⟨-, ⟨H, hH, e2⟩, -⟩ := hM
  rw [e2] at c ⊢
  have : H ≠ 6 := fun e => c (by rw [e]; rfl)
  exact vp_in_nI (by omega) (by decide)
theorem in_W {ω : Om} (hM : Mi ω) : vp_in (ω.1 29 17) 128 := by
  obtain ⟨-, -, ⟨W, hW, e⟩, -⟩ := hM
  rw [e]
  exact vp_in_nI hW (by decide)
theorem in_R {ω : Om} (hM : Mi ω) {x : Int32} (hn : ¬ x < 0) (c : ¬ ω.1 29 9 ≤ x) : vp_in (ω.1 33 x.toNatClampNeg) 7 := by
  obtain ⟨-, -, -, ⟨m, hm, e4, e5⟩, -⟩ := hM
  obtain ⟨k, hk, rfl⟩ := nI_of hn
  rw [e4, nI_leI (by omega) hk] at c
  rw [nI_clamp hk]
  obtain ⟨s, hs, e⟩ := e5 k (by omega)
  rw [e]
  exact vp_in_nI hs (by decide)
theorem in_N {ω : Om} (hM : Mi ω) {x : Int32} (hn : ¬ x < 0) (c : ¬ ω.1 29 15 ≤ x) : vp_in x 7 := by
  obtain ⟨⟨N, hN, e⟩, -⟩ := hM
  obtain ⟨k, hk, rfl⟩ := nI_of hn
  rw [e, nI_leI (by omega) hk] at c
  exact vp_in_nI (by omega) (by decide)
theorem in_M {ω : Om} (hM : Mi ω) {x : Int32} (hn : ¬ x < 0) (c : ¬ ω.1 29 9 ≤ x) : vp_in x 7 := by
  obtain ⟨-, -, -, ⟨m, hm, e4, e5⟩, -⟩ := hM
  obtain ⟨k, hk, rfl⟩ := nI_of hn
  rw [e4, nI_leI (by omega) hk] at c
  exact vp_in_nI (by omega) (by decide)
theorem in_L {ω : Om} (hM : Mi ω) {x : Int32} (hn : ¬ x < 0) (c : ¬ ω.1 29 1 ≤ x) : vp_in x 55 := by
  obtain ⟨-, -, -, -, ⟨L, hL, e⟩⟩ := hM
  obtain ⟨k, hk, rfl⟩ := nI_of hn
  rw [e, nI_leI (by omega) hk] at c
  exact vp_in_nI (by omega) (by decide)
theorem sh2 : ∀ s, s ≤ 7 → (1 : Int32) <<< (nI s &&& 31) = nI (2 ^ s) := by decide
theorem in_2N {ω : Om} (hM : Mi ω) {x : Int32} (hn : ¬ x < 0) (c : ¬ ((1 : Int32) <<< ((ω.1 29 15) &&& 31)) ≤ x) : vp_in x 128 := by
  obtain ⟨⟨N, hN, e⟩, -⟩ := hM
  obtain ⟨k, hk, rfl⟩ := nI_of hn
  have h2 : 2 ^ N ≤ 2 ^ 7 := Nat.pow_le_pow_right (by decide) hN
  rw [e, sh2 N hN, nI_leI (by omega) hk] at c
  exact vp_in_nI (by omega) (by decide)
theorem in_or0 {x : Int32} {n : Nat} (h : vp_in x n) : vp_in (x ||| (0 : Int32)) n := by simpa using h
theorem nI_tb (x : Int32) : x = nI x.toBitVec.toNat := by
  apply Int32.toBitVec_inj.mp
  simp [nI]
theorem or_b {x y : Int32} {z : Nat} (hx : vp_in x 128) (hz : z < 7) : ∃ g : Nat, g < 128 ∧ x ||| (y &&& ((1 : Int32) <<< (nI z &&& 31))) = nI g := by
  obtain ⟨a, ha, rfl⟩ := vp_in_of hx (by decide)
  refine ⟨_, ?_, nI_tb _⟩
  rw [sh2 z (by omega), Int32.toBitVec_or, Int32.toBitVec_and, BitVec.toNat_or, BitVec.toNat_and, pk_tn (by omega), pk_tn (Nat.lt_of_lt_of_le (Nat.pow_lt_pow_right (by decide) (by omega : z < 32)) (by decide))]
  refine Nat.or_lt_two_pow (n := 7) (by omega) ?_
  exact Nat.lt_of_le_of_lt Nat.and_le_right (Nat.pow_lt_pow_right (by decide) hz)
theorem in_orb {x y z : Int32} (hx : vp_in x 128) (hz : vp_in z 7) : vp_in (x ||| (y &&& ((1 : Int32) <<< (z &&& 31)))) 128 := by
  obtain ⟨s, hs, rfl⟩ := vp_in_of hz (by decide)
  obtain ⟨g, hg, e⟩ := or_b (y := y) hx hs
  rw [e]
  exact vp_in_nI hg (by decide)
theorem in_th {v : Int32} (h : vp_in v 5) : v - (1 : Int32) = (-1 : Int32) ∨ vp_in (v - (1 : Int32)) 4 := by
  obtain ⟨j, hj, rfl⟩ := vp_in_of h (by decide)
  match j, hj with
  | 0, _ => exact Or.inl (by decide)
  | j + 1, hj =>
    right
    rw [nI_pred]
    exact vp_in_nI (by omega) (by decide)
theorem nn_i {x : Int32} {n : Nat} (h : vp_in x n) : ¬ x < 0 := fun c => h (Or.inl c)
theorem nn_v {x : Int32} {n : Nat} (h : vp_in x n) (hn : n < 2 ^ 31) : ¬ (x + 1) < 0 := by
  obtain ⟨j, hj, rfl⟩ := vp_in_of h hn
  rw [nI_1]
  exact nI_pos (by omega)
theorem nn_H {ω : Om} (hM : Mi ω) : ¬ ω.1 29 16 < 0 := nn_i (in_H hM)
theorem nn_Hc {ω : Om} (hM : Mi ω) {a : Int32} (c : ¬ a < ω.1 29 16) : ¬ a < 0 := by
  have h := nn_H hM
  rw [Int32.lt_iff_toInt_lt] at *
  rw [Int32.toInt_zero] at *
  omega
theorem dn_v {x : Int32} (h : vp_in x 6) : ¬ (6 : Int32) ≤ x + (-1) := by
  obtain ⟨j, hj, rfl⟩ := vp_in_of h (by decide)
  match j, hj with
  | 0, _ => decide
  | j + 1, hj =>
    rw [pk_m1]
    exact nI_ge (b := 6) (by omega) (by decide)
theorem lo_nn {x : Int32} (h : (0 : Int64) ≤ x.toInt64) : ¬ x < 0 := by
  rw [Int64.le_iff_toInt_le, Int32.toInt_toInt64] at h
  rw [Int32.lt_iff_toInt_lt, Int32.toInt_zero]
  have : (0 : Int64).toInt = 0 := by decide
  omega
/-- the powers of ten are laid -/
def Pw (ω : Om) : Prop := ∀ k, k < 7 → ¬ ω.2 40 k = 0
def Sw (ω0 ω : Om) : Prop := Sc ω0 ω ∧ Pw ω
theorem Sw_ul {ω0 ω : Om} {i k : Nat} {v : Int64} (hi : i ≠ 40) (h : Sw ω0 ω) : Sw ω0 (ul ω i k v) := by
  refine ⟨h.1, fun a ha => ?_⟩
  have e : (ul ω i k v).2 40 = ω.2 40 := if_neg (fun q => hi q.symm)
  rw [e]
  exact h.2 a ha
theorem pw_6 {ω : Om} (hM : Mi ω) (hw : Pw ω) : ¬ ω.2 40 ((6 : Int32) - ω.1 29 16).toNatClampNeg = 0 := by
  obtain ⟨-, ⟨H, hH, e2⟩, -⟩ := hM
  rw [e2, show (6 : Int32) = nI 6 from rfl, pk_sub (by omega), nI_clamp (by omega)]
  exact hw _ (by omega)
/-! by hand -/
theorem t135 {ω : Om} {N : Nat} (hN : N ≤ 7) (e : ω.1 29 15 = nI N) {p0 : Int32} {Q : Int32 → Om → Prop} (h1 : vp_in p0 N → Q 1 ω) (h0 : ¬ vp_in p0 N → Q 0 ω) : me_CtI 135 [.ref 29, .int p0] ω Q := by
  refine vc_135 ω p0 (t123n N (by decide) ?_ (fun c => ⟨Or.inr rfl, _, rfl, h1 c⟩) (fun c => ⟨Or.inl rfl, _, rfl, h0 c⟩))
  rw [e]
  have key : ∀ n, n ≤ 7 → ((nI n - 1).toInt64).toInt = (n : Int) - 1 := by decide
  exact key N hN
theorem m_135 {ω : Om} {p0 : Int32} {Q : Int32 → Om → Prop} (hM : Mi ω) (h1 : vp_in p0 7 → Q 1 ω) (h0 : True → Q 0 ω) : me_CtI 135 [.ref 29, .int p0] ω Q := by
  obtain ⟨⟨N, hN, e⟩, -⟩ := hM
  exact t135 hN e (fun c => h1 (in_w c hN)) (fun _ => h0 trivial)
theorem rem_L (a b : Int64) (hb : ¬ b = 0) : (a - a / b * b).toInt.natAbs < b.toInt.natAbs := by
  have hb' : b.toInt ≠ 0 := fun e => hb (Int64.toInt_inj.mp (by rw [e]; decide))
  have e : (a - a / b * b).toInt = (a.toInt.tmod b.toInt).bmod (2 ^ 64) := by
    rw [Int64.toInt_sub, Int64.toInt_mul, Int64.toInt_div]
    rw [Int.sub_bmod_bmod, ← Int.sub_bmod_bmod, Int.bmod_mul_bmod, Int.sub_bmod_bmod]
    congr 1
    have := Int.tmod_add_mul_tdiv a.toInt b.toInt
    rw [Int.mul_comm]
    omega
  have h1 := Int.natAbs_tmod a.toInt b.toInt
  have h2 : (a.toInt.tmod b.toInt).natAbs < b.toInt.natAbs := by
    rw [h1]
    exact Nat.mod_lt _ (by omega)
  have hbl := b.toInt_lt
  have hbg := b.le_toInt
  rw [e, Int.bmod_eq_of_le (by omega) (by omega)]
  exact h2
theorem m_152 {ω : Om} {p0 p1 : Int64} {p2 : Int32} {Q : Int64 → Om → Prop} (hl : ¬ p1 = 0) (h : ∀ v, Q v ω) : me_CtJ 152 [.long p0, .long p1, .int p2] ω Q := by
  have key : ∀ n (a5 a7 : Int64), a5.toInt.natAbs = n → ¬ a7 = 0 → me_W 152 6 [some (.long p0), none, some (.long p1), none, some (.int p2), some (.long a5), none, some (.long a7), none, none, none] [] ω (fun r ω' => ∃ v : Int64, r = some (.long v) ∧ Q v ω') := by
    intro n
    induction n using Nat.strongRecOn with
    | _ n ih =>
      intro a5 a7 hn h7
      refine vl_152_6 ω p0 p1 p2 a5 a7 ⟨fun _ => ⟨fun _ => ⟨h7, _, rfl, h _⟩, fun _ => ⟨h7, _, rfl, h _⟩⟩, fun c => ⟨nz_cmp c, ?_⟩⟩
      exact ih _ (by rw [← hn]; exact rem_L a7 a5 (nz_cmp c)) _ a5 rfl (nz_cmp c)
  exact vc_152 ω p0 p1 p2 (key _ p0 p1 rfl hl)
theorem m_159 {ω : Om} {p0 p1 : Int32} {Q : Int32 → Om → Prop} (_hM : Mi ω) (h0 : ¬ p0 < 0) (h : ∀ v, vp_in v 5 → Q v ω) : me_CtI 159 [.int p0, .int p1] ω Q := by
  have key : ∀ (a3 : Int32) (a2 : Int32), ¬ a2 < 0 → me_W 159 4 [none, some (.int p1), some (.int a2), some (.int a3)] [] ω (fun r ω' => ∃ v : Int32, r = some (.int v) ∧ Q v ω') := by
    refine up_ind (B := p1) (M := fun a3 => ∀ (a2 : Int32), ¬ a2 < 0 → me_W 159 4 [none, some (.int p1), some (.int a2), some (.int a3)] [] ω (fun r ω' => ∃ v : Int32, r = some (.int v) ∧ Q v ω')) (fun a3 ih a2 h2 => vl_159_4 ω p1 a2 a3 ⟨fun c => ⟨by decide, _, rfl, h _ ?_⟩, fun c => ⟨by decide, ih c _ ?_⟩⟩)
    · obtain ⟨j, hj, rfl⟩ := nI_of h2
      rw [show (5 : Int32) = nI 5 from rfl, pk_rem hj (by decide) (by decide)]
      exact vp_in_nI (Nat.mod_lt _ (by decide)) (by decide)
    · obtain ⟨j, hj, rfl⟩ := nI_of h2
      rw [show (5 : Int32) = nI 5 from rfl, pk_div hj (by decide) (by decide)]
      exact nI_pos (by omega)
  exact vc_159 ω p0 p1 (key 0 p0 h0)
theorem m_161 {ω : Om} {p0 : Int32} {Q : Int32 → Om → Prop} (_hM : Mi ω) (h : ∀ v, Q v ω) : me_CtI 161 [.int p0] ω Q := by
  have key : ∀ (a2 : Int32) (a1 : Int32), me_W 161 4 [some (.int p0), some (.int a1), some (.int a2)] [] ω (fun r ω' => ∃ v : Int32, r = some (.int v) ∧ Q v ω') :=
    up_ind (B := p0) (M := fun a2 => ∀ (a1 : Int32), me_W 161 4 [some (.int p0), some (.int a1), some (.int a2)] [] ω (fun r ω' => ∃ v : Int32, r = some (.int v) ∧ Q v ω')) (fun a2 ih a1 => vl_161_4 ω p0 a1 a2 ⟨fun _ => ⟨_, rfl, h _⟩, fun c => ih c _⟩)
  exact vc_161 ω p0 (key 0 1)
theorem m_174 {ω0 ω : Om} {Q : Int32 → Om → Prop} (_hM : Mi ω0) (hs : Sc ω0 ω) (h : ∀ (v : Int32) (ω' : Om), Sc ω0 ω' → Q v ω') : me_CtI 174 [.ref 29, .int (10 : Int32)] ω Q :=
  vc_174 ω (10 : Int32) ⟨by decide, by decide, _, rfl, h _ _ (Sc_ui rfl hs)⟩
