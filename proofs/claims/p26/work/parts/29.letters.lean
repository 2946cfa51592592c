/-! pasted: rows of kit/laws/BITS.to-paste (wb_) -/
theorem wb_tb (n : Nat) : (lN n).toBitVec = BitVec.ofNat 64 n := rfl
theorem wb_inj {a b : Int64} (h : a.toBitVec = b.toBitVec) : a = b := Int64.toBitVec_inj.mp h
theorem wb_tn {n : Nat} (h : n < 2 ^ 64) : (lN n).toBitVec.toNat = n := by rw [wb_tb, BitVec.toNat_ofNat, Nat.mod_eq_of_lt h]
theorem wb_of (x : Int64) : ∃ n, n < 2 ^ 64 ∧ x = lN n := ⟨x.toBitVec.toNat, x.toBitVec.isLt, wb_inj (by rw [wb_tb]; simp)⟩
theorem wb_cu : ∀ k, k < 64 → ((nI k).toInt64.toUInt64 &&& Int64.toUInt64 63) = UInt64.ofNat k := by decide +kernel
theorem wb_lt2 {a b : Nat} (h : a < b) : 2 ^ a < 2 ^ b := Nat.pow_lt_pow_right (by decide) h
theorem wb_shr {n k : Nat} (hn : n < 2 ^ 64) (hk : k < 64) : ((lN n).toUInt64 >>> ((nI k).toInt64.toUInt64 &&& Int64.toUInt64 63)).toInt64 = lN (n / 2 ^ k) := by
  rw [wb_cu k hk]
  apply wb_inj
  apply BitVec.eq_of_toNat_eq
  show ((lN n).toUInt64 >>> UInt64.ofNat k).toNat = (BitVec.ofNat 64 _).toNat
  have h1 : (UInt64.ofNat k).toNat = k := by
    show (BitVec.ofNat 64 k).toNat = k
    rw [BitVec.toNat_ofNat, Nat.mod_eq_of_lt (by omega)]
  have h2 : (lN n).toUInt64.toNat = n := wb_tn hn
  rw [UInt64.toNat_shiftRight, h1, h2, Nat.mod_eq_of_lt hk, Nat.shiftRight_eq_div_pow, BitVec.toNat_ofNat, Nat.mod_eq_of_lt (Nat.lt_of_le_of_lt (Nat.div_le_self _ _) hn)]
theorem wb_and {a b : Nat} (ha : a < 2 ^ 64) (hb : b < 2 ^ 64) : lN a &&& lN b = lN (a &&& b) := by
  apply wb_inj
  rw [Int64.toBitVec_and, wb_tb, wb_tb, wb_tb]
  apply BitVec.eq_of_toNat_eq
  rw [BitVec.toNat_and, BitVec.toNat_ofNat, BitVec.toNat_ofNat, BitVec.toNat_ofNat, Nat.mod_eq_of_lt ha, Nat.mod_eq_of_lt hb, Nat.mod_eq_of_lt (Nat.and_lt_two_pow _ hb)]
theorem wb_mask {n k : Nat} (hn : n < 2 ^ 64) (hk : k < 64) : lN n &&& lN (2 ^ k - 1) = lN (n % 2 ^ k) := by
  rw [wb_and hn (by have := wb_lt2 hk; omega), Nat.and_two_pow_sub_one_eq_mod]
/-! letters -/
def bt (n i : Nat) : Nat := n / 2 ^ (8 * i) % 256
theorem bt_lt (n i : Nat) : bt n i < 256 := Nat.mod_lt _ (by decide)
theorem nI_255 (N : Nat) : nI N &&& 255 = nI (N % 256) := by
  rw [pk_and (nI N) (m := 255) 8 rfl]
  congr 1
  have h : (nI N).toBitVec.toNat = N % 2 ^ 32 := by
    show (BitVec.ofNat 32 N).toNat = _
    rw [BitVec.toNat_ofNat]
  rw [h]
  omega
theorem t98 {ω : Om} {n i : Nat} (hn : n < 2 ^ 64) (hi : i < 8) {Q : Int32 → Om → Prop} (h : Q (nI (bt n i)) ω) : me_CtI 98 [.long (lN n), .int (nI i)] ω Q := by
  refine vc_98 ω (lN n) (nI i) ⟨_, rfl, ?_⟩
  rw [show (8 : Int32) = nI 8 from rfl, pk_mul, wb_shr hn (by omega), lN_i, nI_255]
  exact h
theorem m_by {m : Nat} (hm : m < 2 ^ 64) : (lN m &&& 255).toInt32 = nI (m % 256) := by
  rw [show (255 : Int64) = lN (2 ^ 8 - 1) from rfl, wb_mask hm (by decide), lN_i]
theorem m_sh {n i : Nat} (hn : n < 2 ^ 64) : ((lN (n / 2 ^ (8 * i))).toUInt64 >>> ((8 : Int32).toInt64.toUInt64 &&& Int64.toUInt64 63)).toInt64 = lN (n / 2 ^ (8 * (i + 1))) := by
  rw [show (8 : Int32) = nI 8 from rfl, wb_shr (Nat.lt_of_le_of_lt (Nat.div_le_self _ _) hn) (by decide), Nat.div_div_eq_div_mul, ← Nat.pow_add]
  rfl
section LTR
variable {n : Nat} {w : Int64}
abbrev Lm (w : Int64) (m : Nat) (g : Int32) (l : Int64) (i : Nat) : List (Option Value) := [some (.ref 29), some (.long w), none, some (.int (nI m)), some (.int g), some (.long l), none, some (.int (nI i)), none]
abbrev Lc (w : Int64) (m i : Nat) : List (Option Value) := [some (.long w), none, some (.int (nI m)), some (.int (nI i)), none]
/-- one turn of the reference's loop, by what it comes to -/
theorem lt_turn (hn : n < 2 ^ 64) {m i : Nat} {g g' : Int32} (hi : i < 8) {ω : Om} {P : Option Value → Om → Prop} (hg : g = 0 ∧ g' = 0 ∨ g = 1 ∧ (126 < bt n i ∨ ¬ 126 < bt n i ∧ ¬ bt n i = 0 ∧ ¬ m = i) ∧ g' = 0 ∨ g = 1 ∧ ¬ 126 < bt n i ∧ (bt n i = 0 ∨ ¬ bt n i = 0 ∧ m = i) ∧ g' = 1) (hm : m < 100)
    (h : me_W 124 11 (Lm w (if bt n i = 0 then m else m + 1) g' (lN (n / 2 ^ (8 * (i + 1)))) (i + 1)) [] ω P) : me_W 124 11 (Lm w m g (lN (n / 2 ^ (8 * i))) i) [] ω P := by
  have hb : (lN (n / 2 ^ (8 * i)) &&& 255).toInt32 = nI (bt n i) := m_by (Nat.lt_of_le_of_lt (Nat.div_le_self _ _) hn)
  have hlt := bt_lt n i
  have two : ((nI (bt n i) ≤ 0 → me_W 124 11 (Lm w (m + 0) g' (lN (n / 2 ^ (8 * (i + 1)))) (i + 1)) [] ω P) ∧ (¬ nI (bt n i) ≤ 0 → me_W 124 11 (Lm w (m + 1) g' (lN (n / 2 ^ (8 * (i + 1)))) (i + 1)) [] ω P)) := by
    by_cases e : bt n i = 0
    · rw [if_pos e] at h
      exact br_t (by rw [e]; decide) h
    · rw [if_neg e] at h
      exact br_f (nI_nle (by omega) (by omega)) h
  refine vl_124_11 ω w (nI m) g (lN (n / 2 ^ (8 * i))) (nI i) (br_f (nI_ge (b := 8) hi (by decide)) ?_)
  rw [hb, m_sh hn, nI_1, nI_1, show nI m + 0 = nI (m + 0) from Int32.add_zero _]
  rcases hg with ⟨rfl, rfl⟩ | ⟨rfl, hh, rfl⟩ | ⟨rfl, h1, h2, rfl⟩
  · exact br_t rfl two
  · refine br_f (by decide) ?_
    rcases hh with hh | ⟨h1, h2, h3⟩
    · exact br_t (nI_lt (a := 126) hh (by omega)) two
    · exact br_f (nI_nlt (a := 126) (by omega) (by decide)) (br_f (fun q => h2 ((nI_eq (b := 0) (by omega) (by decide)).mp q)) (br_f (fun q => h3 ((nI_eq (by omega) (by omega)).mp q)) two))
  · refine br_f (by decide) (br_f (nI_nlt (a := 126) (by omega) (by decide)) ?_)
    rcases h2 with h2 | ⟨h2, h3⟩
    · exact br_t (by rw [h2]; rfl) two
    · exact br_f (fun q => h2 ((nI_eq (b := 0) (by omega) (by decide)).mp q)) (br_t (by rw [h3]) two)
/-- once bad, bad to the end -/
theorem lt_bad (hn : n < 2 ^ 64) : ∀ (f i m : Nat), i + f = 8 → m ≤ i → ∀ (ω : Om) (P : Option Value → Om → Prop), (∀ m' l', me_W 124 11 (Lm w m' 0 l' 8) [] ω P) → me_W 124 11 (Lm w m 0 (lN (n / 2 ^ (8 * i))) i) [] ω P := by
  intro f
  induction f with
  | zero =>
    intro i m hi hm ω P h
    obtain rfl : i = 8 := by omega
    exact h m _
  | succ f ih =>
    intro i m hi hm ω P h
    refine lt_turn hn (by omega) (Or.inl ⟨rfl, rfl⟩) (by omega) (ih (i + 1) _ (by omega) ?_ ω P h)
    split <;> omega
/-- the two loops, side by side -/
theorem lt_both (hn : n < 2 ^ 64) : ∀ (f i m : Nat), i + f = 8 → m ≤ i →
    (∃ M, M ≤ 8 ∧ (∀ (ω : Om) (P : Option Value → Om → Prop), P (some (.int (nI M))) ω → me_W 99 4 (Lc (lN n) m i) [] ω P) ∧ ∀ (ω : Om) (P : Option Value → Om → Prop), (∀ l, me_W 124 11 (Lm w M 1 l 8) [] ω P) → me_W 124 11 (Lm w m 1 (lN (n / 2 ^ (8 * i))) i) [] ω P) ∨
    ((∀ (ω : Om) (P : Option Value → Om → Prop), P (some (.int (-1))) ω → me_W 99 4 (Lc (lN n) m i) [] ω P) ∧ ∀ (ω : Om) (P : Option Value → Om → Prop), (∀ m' l', me_W 124 11 (Lm w m' 0 l' 8) [] ω P) → me_W 124 11 (Lm w m 1 (lN (n / 2 ^ (8 * i))) i) [] ω P) := by
  intro f
  induction f with
  | zero =>
    intro i m hi hm
    obtain rfl : i = 8 := by omega
    exact Or.inl ⟨m, hm, fun ω P h => vl_99_4 ω (lN n) (nI m) (nI 8) (br_t (by decide) h), fun ω P h => h _⟩
  | succ f ih =>
    intro i m hi hm
    have hlt := bt_lt n i
    have bad : (126 < bt n i ∨ ¬ 126 < bt n i ∧ ¬ bt n i = 0 ∧ ¬ m = i) → ∀ (ω : Om) (P : Option Value → Om → Prop), (∀ m' l', me_W 124 11 (Lm w m' 0 l' 8) [] ω P) → me_W 124 11 (Lm w m 1 (lN (n / 2 ^ (8 * i))) i) [] ω P := by
      intro hb ω P h
      refine lt_turn hn (by omega) (Or.inr (Or.inl ⟨rfl, hb, rfl⟩)) (by omega) (lt_bad hn f (i + 1) _ (by omega) ?_ ω P h)
      split <;> omega
    by_cases c1 : 126 < bt n i
    · exact Or.inr ⟨fun ω P h => vl_99_4 ω (lN n) (nI m) (nI i) (br_f (nI_ge (b := 8) (by omega) (by decide)) (t98 hn (by omega) (br_t (nI_lt (a := 126) c1 (by omega)) h))), bad (Or.inl c1)⟩
    · have n1 : ¬ (126 : Int32) < nI (bt n i) := nI_nlt (a := 126) (by omega) (by decide)
      by_cases c2 : bt n i = 0
      · have go := ih (i + 1) m (by omega) (by omega)
        have cc : ∀ (ω : Om) (P : Option Value → Om → Prop), me_W 99 4 (Lc (lN n) m (i + 1)) [] ω P → me_W 99 4 (Lc (lN n) m i) [] ω P := by
          intro ω P h
          refine vl_99_4 ω (lN n) (nI m) (nI i) (br_f (nI_ge (b := 8) (by omega) (by decide)) (t98 hn (by omega) (br_f n1 ?_)))
          rw [nI_1, c2]
          exact br_t rfl (br_t rfl h)
        have mm : ∀ (ω : Om) (P : Option Value → Om → Prop), me_W 124 11 (Lm w m 1 (lN (n / 2 ^ (8 * (i + 1)))) (i + 1)) [] ω P → me_W 124 11 (Lm w m 1 (lN (n / 2 ^ (8 * i))) i) [] ω P := by
          intro ω P h
          refine lt_turn hn (by omega) (Or.inr (Or.inr ⟨rfl, c1, Or.inl c2, rfl⟩)) (by omega) ?_
          rw [if_pos c2]
          exact h
        rcases go with ⟨M, h1, h2, h3⟩ | ⟨h2, h3⟩
        · exact Or.inl ⟨M, h1, fun ω P h => cc ω P (h2 ω P h), fun ω P h => mm ω P (h3 ω P h)⟩
        · exact Or.inr ⟨fun ω P h => cc ω P (h2 ω P h), fun ω P h => mm ω P (h3 ω P h)⟩
      · have n2 : ¬ nI (bt n i) = 0 := fun q => c2 ((nI_eq (b := 0) (by omega) (by decide)).mp q)
        by_cases c3 : m = i
        · have go := ih (i + 1) (m + 1) (by omega) (by omega)
          have cc : ∀ (ω : Om) (P : Option Value → Om → Prop), me_W 99 4 (Lc (lN n) (m + 1) (i + 1)) [] ω P → me_W 99 4 (Lc (lN n) m i) [] ω P := by
            intro ω P h
            refine vl_99_4 ω (lN n) (nI m) (nI i) (br_f (nI_ge (b := 8) (by omega) (by decide)) (t98 hn (by omega) (br_f n1 ?_)))
            rw [nI_1, nI_1]
            exact br_f n2 (br_t (by rw [c3]; exact Int32.le_refl _) (br_f n2 h))
          have mm : ∀ (ω : Om) (P : Option Value → Om → Prop), me_W 124 11 (Lm w (m + 1) 1 (lN (n / 2 ^ (8 * (i + 1)))) (i + 1)) [] ω P → me_W 124 11 (Lm w m 1 (lN (n / 2 ^ (8 * i))) i) [] ω P := by
            intro ω P h
            refine lt_turn hn (by omega) (Or.inr (Or.inr ⟨rfl, c1, Or.inr ⟨c2, c3⟩, rfl⟩)) (by omega) ?_
            rw [if_neg c2]
            exact h
          rcases go with ⟨M, h1, h2, h3⟩ | ⟨h2, h3⟩
          · exact Or.inl ⟨M, h1, fun ω P h => cc ω P (h2 ω P h), fun ω P h => mm ω P (h3 ω P h)⟩
          · exact Or.inr ⟨fun ω P h => cc ω P (h2 ω P h), fun ω P h => mm ω P (h3 ω P h)⟩
        · refine Or.inr ⟨fun ω P h => vl_99_4 ω (lN n) (nI m) (nI i) (br_f (nI_ge (b := 8) (by omega) (by decide)) (t98 hn (by omega) (br_f n1 (br_f n2 (br_f (nI_ge (by omega) (by omega)) h))))), bad (Or.inr ⟨c1, c2, c3⟩)⟩
end LTR
/-! pages -/
theorem pg_eq {ω : Om} {i l : Nat} {g : Nat → Int32} {a b v : Int32} {k : Nat} (h : i ≠ l) : ui (ui (ui (ur ω i g) l 1 a) i k v) l 1 b = ui (ur ω i (upd g k v)) l 1 b := by
  refine Prod.ext (funext fun x => ?_) rfl
  by_cases e1 : x = l
  · subst e1
    have h' : ¬ x = i := fun q => h q.symm
    funext y
    simp only [ui, ur, h', if_true, if_false, upd]
    by_cases e2 : y = 1
    · simp [e2]
    · simp [e2]
  · by_cases e2 : x = i
    · subst e2
      simp [ui, ur, e1]
    · simp [ui, ur, e1, e2]
theorem ui_self {ω : Om} (i k : Nat) : ui ω i k (ω.1 i k) = ω := by
  refine Prod.ext (funext fun x => ?_) rfl
  by_cases e : x = i
  · subst e
    funext y
    simp only [ui, if_true, upd]
    by_cases e2 : y = k
    · rw [if_pos e2, e2]
    · rw [if_neg e2]
  · simp [ui, e]
theorem upd_at {g : Nat → Int32} {L j : Nat} {f : Nat → Int32} (h : ∀ k, k < j → g (L + k) = f k) : ∀ k, k < j + 1 → upd g (L + j) (f j) (L + k) = f k := by
  intro k hk
  unfold upd
  by_cases e : k = j
  · rw [if_pos (by omega), e]
  · rw [if_neg (by omega)]; exact h k (by omega)
theorem upd_lo {g f : Nat → Int32} {L j : Nat} {v : Int32} (h : ∀ k, k < L → g k = f k) (hj : L ≤ j) : ∀ k, k < L → upd g j v k = f k := by
  intro k hk
  unfold upd
  rw [if_neg (by omega)]
  exact h k hk
theorem t43 {ω : Om} {k : Nat} (hk : k < 55) (hp : ω.1 1 1 = nI k) {v : Int32} {Q : Om → Prop} (h : Q (ui (ui ω 2 k v) 1 1 (nI (k + 1)))) : me_CtV 43 [.ref 1, .int v] ω Q := by
  refine vc_43 ω v ?_
  rw [hp, nI_clamp (by omega), nI_1]
  exact br_f (nI_pos (by omega)) (br_f (nI_ge (b := 55) hk (by decide)) ⟨vp_in_nI hk (by decide), rfl, h⟩)
theorem k64 {ω : Om} {n L M : Nat} (hn : n < 2 ^ 64) (hM : M ≤ 8) (hL : L + M ≤ 55) (e : ω.1 1 1 = nI L) {Q : Int32 → Om → Prop} (h : ∀ g : Nat → Int32, (∀ k, k < L → g k = ω.1 2 k) → (∀ k, k < M → g (L + k) = nI (bt n k)) → Q (nI (L + M)) (ui (ur ω 2 g) 1 1 (nI (L + M)))) : me_W 64 32 [some (.ref 0), some (.long (lN n)), none, some (.int (nI M)), some (.int 0)] [] ω (fun r ω' => ∃ v : Int32, r = some (.int v) ∧ Q v ω') := by
  have key : ∀ f j (g : Nat → Int32), j + f = M → (∀ k, k < L → g k = ω.1 2 k) → (∀ k, k < j → g (L + k) = nI (bt n k)) → me_W 64 32 [some (.ref 0), some (.long (lN n)), none, some (.int (nI M)), some (.int (nI j))] [] (ui (ur ω 2 g) 1 1 (nI (L + j))) (fun r ω' => ∃ v : Int32, r = some (.int v) ∧ Q v ω') := by
    intro f
    induction f with
    | zero =>
      intro j g hj h1 h2
      obtain rfl : j = M := by omega
      exact vl_64_32 _ (lN n) (nI j) (nI j) (br_t (Int32.le_refl _) ⟨_, rfl, h g h1 h2⟩)
    | succ f ih =>
      intro j g hj h1 h2
      have i1 := ih (j + 1) (upd g (L + j) (nI (bt n j))) (by omega) (upd_lo h1 (by omega)) (upd_at (f := fun k => nI (bt n k)) h2)
      rw [← pg_eq (ω := ω) (a := nI (L + j)) (by decide : (2 : Nat) ≠ 1)] at i1
      refine vl_64_32 _ (lN n) (nI M) (nI j) (br_f (nI_ge (by omega) (by omega)) (t98 hn (by omega) (t43 (k := L + j) (by omega) rfl ?_)))
      rw [nI_1]
      exact i1
  have k0 := key M 0 (ω.1 2) (by omega) (fun k _ => rfl) (fun k hk => absurd hk (by omega))
  rw [ur_self, Nat.add_zero, ← e, ui_self] at k0
  exact k0
theorem k124 {ω : Om} {n L M : Nat} (hn : n < 2 ^ 64) (hM : M ≤ 8) (hL : L + M ≤ 55) (e : ω.1 29 1 = nI L) {Q : Int32 → Om → Prop} (h : ∀ g : Nat → Int32, (∀ k, k < L → g k = ω.1 30 k) → (∀ k, k < M → g (L + k) = nI (bt n k)) → Q (nI (L + M)) (ui (ur ω 30 g) 29 1 (nI (L + M)))) : me_W 124 108 [some (.ref 29), some (.long (lN n)), none, some (.int (nI M)), none, none, none, some (.int 0), none] [] ω (fun r ω' => ∃ v : Int32, r = some (.int v) ∧ Q v ω') := by
  have key : ∀ f j (g : Nat → Int32), j + f = M → (∀ k, k < L → g k = ω.1 30 k) → (∀ k, k < j → g (L + k) = nI (bt n k)) → me_W 124 108 [some (.ref 29), some (.long (lN n)), none, some (.int (nI M)), none, none, none, some (.int (nI j)), none] [] (ui (ur ω 30 g) 29 1 (nI (L + j))) (fun r ω' => ∃ v : Int32, r = some (.int v) ∧ Q v ω') := by
    intro f
    induction f with
    | zero =>
      intro j g hj h1 h2
      obtain rfl : j = M := by omega
      exact vl_124_108 _ (lN n) (nI j) (nI j) (br_t (Int32.le_refl _) ⟨_, rfl, h g h1 h2⟩)
    | succ f ih =>
      intro j g hj h1 h2
      have i1 := ih (j + 1) (upd g (L + j) (nI (bt n j))) (by omega) (upd_lo h1 (by omega)) (upd_at (f := fun k => nI (bt n k)) h2)
      rw [← pg_eq (ω := ω) (a := nI (L + j)) (by decide : (30 : Nat) ≠ 29)] at i1
      refine vl_124_108 _ (lN n) (nI M) (nI j) (br_f (nI_ge (by omega) (by omega)) ?_)
      have e1 : (ui (ur ω 30 g) 29 1 (nI (L + j))).1 29 1 = nI (L + j) := rfl
      rw [e1, nI_clamp (by omega), nI_1, nI_1, show (8 : Int32) = nI 8 from rfl, pk_mul, wb_shr hn (by omega), m_by (Nat.lt_of_le_of_lt (Nat.div_le_self _ _) hn)]
      exact ⟨vp_in_nI (by omega) (by decide), i1⟩
  have k0 := key M 0 (ω.1 30) (by omega) (fun k _ => rfl) (fun k hk => absurd hk (by omega))
  rw [ur_self, Nat.add_zero, ← e, ui_self] at k0
  exact k0
theorem q_64 {ω : Om} (hR : R ω) (w : Int64) : Pr 64 [.ref 0, .long w] 124 [.ref 29, .long w] ω := by
  intro Q hQ
  obtain ⟨N, nb, ⟨L, hL, e1, e2, h1⟩, h2⟩ := id hR
  obtain ⟨n, hn, rfl⟩ := wb_of w
  have e0 : lN n = lN (n / 2 ^ (8 * 0)) := by simp
  have st : ∀ {ω : Om} {P : Option Value → Om → Prop}, me_W 124 11 (Lm (lN n) 0 1 (lN (n / 2 ^ (8 * 0))) 0) [] ω P → me_Ct 124 [.ref 29, .long (lN n)] ω P := by
    intro ω P h
    refine vc_124 ω (lN n) ?_
    rw [← e0] at h
    exact h
  rcases lt_both (w := lN n) hn 8 0 0 rfl (Nat.le_refl _) with ⟨M, hM8, c1, c2⟩ | ⟨c1, c2⟩
  · by_cases hf : L + M ≤ 55
    · refine vc_64 ω (lN n) (vc_99 ω (lN n) (c1 ω _ ⟨_, rfl, br_t (nI_pos' (by omega)) (br_t (by rw [e1, nI_add]; exact nI_le (b := 55) hf (by decide)) (k64 hn hM8 hf e1 (fun g hg1 hg2 => ?_)))⟩))
      have e2' : (ui (ur ω 2 g) 1 1 (nI (L + M))).1 29 1 = nI L := e2
      refine st (c2 _ _ (fun l => vl_124_11 _ (lN n) (nI M) 1 l (nI 8) (br_t (by decide) (br_f (by decide) (br_t (by rw [e2', nI_add]; exact nI_le (b := 55) hf (by decide)) (k124 hn hM8 hf e2' (fun f hf1 hf2 => hQ _ _ ⟨N, nb, ⟨L + M, hf, rfl, rfl, fun k hk => ?_⟩, h2⟩)))))))
      show g k = f k ∧ ∃ b : Nat, b < 256 ∧ f k = nI b
      by_cases q : k < L
      · have := h1 k q
        have u : f k = ω.1 30 k := hf1 k q
        rw [hg1 k q, u]
        exact this
      · obtain ⟨j, rfl⟩ : ∃ j, k = L + j := ⟨k - L, by omega⟩
        rw [hg2 j (by omega), hf2 j (by omega)]
        exact ⟨rfl, _, bt_lt n j, rfl⟩
    · exact vc_64 ω (lN n) (vc_99 ω (lN n) (c1 ω _ ⟨_, rfl, br_t (nI_pos' (by omega)) (br_f (by rw [e1, nI_add]; exact nI_ge (a := 55) (by omega) (by omega)) ⟨_, rfl, st (c2 _ _ (fun l => vl_124_11 _ (lN n) (nI M) 1 l (nI 8) (br_t (by decide) (br_f (by decide) (br_f (by rw [e2, nI_add]; exact nI_ge (a := 55) (by omega) (by omega)) ⟨_, rfl, hQ _ _ hR⟩)))))⟩)⟩))
  · exact vc_64 ω (lN n) (vc_99 ω (lN n) (c1 ω _ ⟨_, rfl, br_f (by decide) ⟨_, rfl, st (c2 ω _ (fun m' l' => vl_124_11 ω (lN n) (nI m') 0 l' (nI 8) (br_t (by decide) (br_t rfl ⟨_, rfl, hQ _ _ hR⟩))))⟩⟩))
