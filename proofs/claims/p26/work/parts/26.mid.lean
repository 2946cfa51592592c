/-! CALLS THAT ANSWER ALIKE: count, image, restore, sleeper -/
def bcF (p0 : Int32) : Int32 := ((((((((p0 - (((p0.toUInt32 >>> ((1 : Int32).toUInt32 &&& Int32.toUInt32 31)).toInt32) &&& (1431655765 : Int32))) &&& (858993459 : Int32)) + ((((p0 - (((p0.toUInt32 >>> ((1 : Int32).toUInt32 &&& Int32.toUInt32 31)).toInt32) &&& (1431655765 : Int32))).toUInt32 >>> ((2 : Int32).toUInt32 &&& Int32.toUInt32 31)).toInt32) &&& (858993459 : Int32))) + (((((p0 - (((p0.toUInt32 >>> ((1 : Int32).toUInt32 &&& Int32.toUInt32 31)).toInt32) &&& (1431655765 : Int32))) &&& (858993459 : Int32)) + ((((p0 - (((p0.toUInt32 >>> ((1 : Int32).toUInt32 &&& Int32.toUInt32 31)).toInt32) &&& (1431655765 : Int32))).toUInt32 >>> ((2 : Int32).toUInt32 &&& Int32.toUInt32 31)).toInt32) &&& (858993459 : Int32))).toUInt32 >>> ((4 : Int32).toUInt32 &&& Int32.toUInt32 31)).toInt32)) &&& (252645135 : Int32)) + (((((((p0 - (((p0.toUInt32 >>> ((1 : Int32).toUInt32 &&& Int32.toUInt32 31)).toInt32) &&& (1431655765 : Int32))) &&& (858993459 : Int32)) + ((((p0 - (((p0.toUInt32 >>> ((1 : Int32).toUInt32 &&& Int32.toUInt32 31)).toInt32) &&& (1431655765 : Int32))).toUInt32 >>> ((2 : Int32).toUInt32 &&& Int32.toUInt32 31)).toInt32) &&& (858993459 : Int32))) + (((((p0 - (((p0.toUInt32 >>> ((1 : Int32).toUInt32 &&& Int32.toUInt32 31)).toInt32) &&& (1431655765 : Int32))) &&& (858993459 : Int32)) + ((((p0 - (((p0.toUInt32 >>> ((1 : Int32).toUInt32 &&& Int32.toUInt32 31)).toInt32) &&& (1431655765 : Int32))).toUInt32 >>> ((2 : Int32).toUInt32 &&& Int32.toUInt32 31)).toInt32) &&& (858993459 : Int32))).toUInt32 >>> ((4 : Int32).toUInt32 &&& Int32.toUInt32 31)).toInt32)) &&& (252645135 : Int32)).toUInt32 >>> ((8 : Int32).toUInt32 &&& Int32.toUInt32 31)).toInt32)) + ((((((((p0 - (((p0.toUInt32 >>> ((1 : Int32).toUInt32 &&& Int32.toUInt32 31)).toInt32) &&& (1431655765 : Int32))) &&& (858993459 : Int32)) + ((((p0 - (((p0.toUInt32 >>> ((1 : Int32).toUInt32 &&& Int32.toUInt32 31)).toInt32) &&& (1431655765 : Int32))).toUInt32 >>> ((2 : Int32).toUInt32 &&& Int32.toUInt32 31)).toInt32) &&& (858993459 : Int32))) + (((((p0 - (((p0.toUInt32 >>> ((1 : Int32).toUInt32 &&& Int32.toUInt32 31)).toInt32) &&& (1431655765 : Int32))) &&& (858993459 : Int32)) + ((((p0 - (((p0.toUInt32 >>> ((1 : Int32).toUInt32 &&& Int32.toUInt32 31)).toInt32) &&& (1431655765 : Int32))).toUInt32 >>> ((2 : Int32).toUInt32 &&& Int32.toUInt32 31)).toInt32) &&& (858993459 : Int32))).toUInt32 >>> ((4 : Int32).toUInt32 &&& Int32.toUInt32 31)).toInt32)) &&& (252645135 : Int32)) + (((((((p0 - (((p0.toUInt32 >>> ((1 : Int32).toUInt32 &&& Int32.toUInt32 31)).toInt32) &&& (1431655765 : Int32))) &&& (858993459 : Int32)) + ((((p0 - (((p0.toUInt32 >>> ((1 : Int32).toUInt32 &&& Int32.toUInt32 31)).toInt32) &&& (1431655765 : Int32))).toUInt32 >>> ((2 : Int32).toUInt32 &&& Int32.toUInt32 31)).toInt32) &&& (858993459 : Int32))) + (((((p0 - (((p0.toUInt32 >>> ((1 : Int32).toUInt32 &&& Int32.toUInt32 31)).toInt32) &&& (1431655765 : Int32))) &&& (858993459 : Int32)) + ((((p0 - (((p0.toUInt32 >>> ((1 : Int32).toUInt32 &&& Int32.toUInt32 31)).toInt32) &&& (1431655765 : Int32))).toUInt32 >>> ((2 : Int32).toUInt32 &&& Int32.toUInt32 31)).toInt32) &&& (858993459 : Int32))).toUInt32 >>> ((4 : Int32).toUInt32 &&& Int32.toUInt32 31)).toInt32)) &&& (252645135 : Int32)).toUInt32 >>> ((8 : Int32).toUInt32 &&& Int32.toUInt32 31)).toInt32)).toUInt32 >>> ((16 : Int32).toUInt32 &&& Int32.toUInt32 31)).toInt32)) &&& (63 : Int32))
def onF (x : Int32) : Int32 := ((((((((0 : Int32) + ((x >>> ((0 : Int32) &&& 31)) &&& (1 : Int32))) + ((x >>> (((0 : Int32) + (1 : Int32)) &&& 31)) &&& (1 : Int32))) + ((x >>> ((((0 : Int32) + (1 : Int32)) + (1 : Int32)) &&& 31)) &&& (1 : Int32))) + ((x >>> (((((0 : Int32) + (1 : Int32)) + (1 : Int32)) + (1 : Int32)) &&& 31)) &&& (1 : Int32))) + ((x >>> ((((((0 : Int32) + (1 : Int32)) + (1 : Int32)) + (1 : Int32)) + (1 : Int32)) &&& 31)) &&& (1 : Int32))) + ((x >>> (((((((0 : Int32) + (1 : Int32)) + (1 : Int32)) + (1 : Int32)) + (1 : Int32)) + (1 : Int32)) &&& 31)) &&& (1 : Int32))) + ((x >>> ((((((((0 : Int32) + (1 : Int32)) + (1 : Int32)) + (1 : Int32)) + (1 : Int32)) + (1 : Int32)) + (1 : Int32)) &&& 31)) &&& (1 : Int32)))
theorem t184 {ω : Om} {x : Int32} {Q : Int32 → Om → Prop} (h : Q (bcF x) ω) : me_CtI 184 [.int x] ω Q := vc_184 ω x ⟨_, rfl, h⟩
theorem t144 {ω : Om} {x : Int32} {Q : Int32 → Om → Prop} (h : Q (onF x) ω) : me_CtI 144 [.int x] ω Q := by
  refine vc_144 ω x (vl_144_4 ω _ _ _ (br_f (by decide) (vl_144_4 ω _ _ _ (br_f (by decide) (vl_144_4 ω _ _ _ (br_f (by decide) (vl_144_4 ω _ _ _ (br_f (by decide) (vl_144_4 ω _ _ _ (br_f (by decide) (vl_144_4 ω _ _ _ (br_f (by decide) (vl_144_4 ω _ _ _ (br_f (by decide) (vl_144_4 ω _ _ _ (br_t (by decide) ⟨_, rfl, h⟩))))))))))))))))
set_option maxRecDepth 100000 in
theorem bc_on : ∀ w, w < 128 → bcF (nI w) = onF (nI w) := by decide
theorem q_89 {ω : Om} (hR : R ω) (a : Int32) : Pr 89 [.ref 0, .int a] 180 [.ref 29, .int a] ω := by
  intro Q hQ
  have k : ∀ x y, x = y → Q x y ω := fun x y e => e ▸ hQ x ω hR
  obtain ⟨N, nb, ⟨L, hL, p1, p2, -⟩, ⟨b1, -⟩, ⟨-, m, -, r1, r2, -⟩, ⟨hN, s1, s2, -⟩, ⟨n1, n2, H, W, hH, n3, n4, hW, -, n5, n6⟩, -⟩ := id hR
  have hw : W < 128 := Nat.lt_of_lt_of_le hW (pow7 hN)
  exact vc_89 ω a ⟨fun c => ⟨_, rfl, vc_180 ω a (vc_179 ω a (br_t c ⟨_, rfl, _, rfl, k _ _ (s1.trans s2.symm)⟩))⟩, fun c0 => ⟨fun c => ⟨_, rfl, vc_180 ω a (vc_179 ω a (br_f c0 (br_t c ⟨_, rfl, _, rfl, k _ _ (n3.trans n4.symm)⟩)))⟩, fun c1 => ⟨fun c => t184 ⟨_, rfl, vc_180 ω a (vc_179 ω a (br_f c0 (br_f c1 (br_t c (t144 ⟨_, rfl, _, rfl, k _ _ (by rw [n5, n6]; exact bc_on W hw)⟩)))))⟩, fun c2 => ⟨fun c => ⟨_, rfl, vc_180 ω a (vc_179 ω a (br_f c0 (br_f c1 (br_f c2 (br_t c ⟨_, rfl, _, rfl, k _ _ n1⟩)))))⟩, fun c3 => ⟨fun c => ⟨_, rfl, vc_180 ω a (vc_179 ω a (br_f c0 (br_f c1 (br_f c2 (br_f c3 (br_t c ⟨_, rfl, _, rfl, k _ _ n2⟩))))))⟩, fun c4 => ⟨fun c => ⟨_, rfl, vc_180 ω a (vc_179 ω a (br_f c0 (br_f c1 (br_f c2 (br_f c3 (br_f c4 (br_t c ⟨_, rfl, _, rfl, k _ _ (p1.trans p2.symm)⟩)))))))⟩, fun c5 => ⟨fun c => ⟨_, rfl, vc_180 ω a (vc_179 ω a (br_f c0 (br_f c1 (br_f c2 (br_f c3 (br_f c4 (br_f c5 (br_t c ⟨_, rfl, _, rfl, k _ _ b1⟩))))))))⟩, fun c6 => ⟨fun c => ⟨_, rfl, vc_180 ω a (vc_179 ω a (br_f c0 (br_f c1 (br_f c2 (br_f c3 (br_f c4 (br_f c5 (br_f c6 (br_t c ⟨_, rfl, _, rfl, k _ _ (r1.trans r2.symm)⟩)))))))))⟩, fun c7 => ⟨_, rfl, vc_180 ω a (vc_179 ω a (br_f c0 (br_f c1 (br_f c2 (br_f c3 (br_f c4 (br_f c5 (br_f c6 (br_f c7 ⟨_, rfl, _, rfl, k _ _ rfl⟩)))))))))⟩⟩⟩⟩⟩⟩⟩⟩⟩
theorem q_eq {Q : Int32 → Int32 → Om → Prop} {x y : Int32} {w : Om} (e : y = x) (h : Q x x w) : Q x y w := by rw [e]; exact h
theorem q_eq' {Q : Int32 → Int32 → Om → Prop} {x y : Int32} {w : Om} (e : x = y) (h : Q y y w) : Q x y w := by rw [e]; exact h
/-! image -/
theorem t87 {ω : Om} {Q : Int32 → Om → Prop} (h : Q (ω.1 16 0) (ui (ui (ui (ui (ui (ur (ur ω 18 (va_cpy (ω.1 14) (ω.1 18) 0 0 28)) 19 (va_cpy (ω.1 15) (ω.1 19) 0 0 4)) 17 2 (ω.1 11 4)) 17 3 (ω.1 16 0)) 17 4 (ω.1 16 1)) 17 5 (ω.1 16 2)) 17 6 (ω.1 16 3))) : me_CtI 87 [.ref 0] ω Q :=
  vc_87 ω (vc_37 ω ⟨by decide, by decide, rfl, _, rfl, h⟩)
theorem upd_lt {g f : Nat → Int32} {j : Nat} (h : ∀ k, k < j → g k = f k) : ∀ k, k < j + 1 → upd g j (f j) k = f k := by
  intro k hk
  unfold upd
  by_cases e : k = j
  · rw [if_pos e, e]
  · rw [if_neg e]; exact h k (by omega)
theorem t177 {ω : Om} {Q : Int32 → Om → Prop} (h : ∀ g f : Nat → Int32, (∀ k, k < 28 → g k = ω.1 37 k) → (∀ k, k < 4 → f k = ω.1 38 k) → Q (ω.1 29 16) (ui (ui (ui (ui (ui (ur (ur ω 45 g) 44 f) 29 31 (ω.1 29 15)) 29 32 (ω.1 29 17)) 29 33 (ω.1 29 18)) 29 34 (ω.1 29 19)) 29 30 (ω.1 29 16))) : me_CtI 177 [.ref 29] ω Q := by
  have k2 : ∀ (g : Nat → Int32), (∀ k, k < 28 → g k = ω.1 37 k) → ∀ n j (f : Nat → Int32), j + n = 4 → (∀ k, k < j → f k = ω.1 38 k) → me_W 177 28 [some (.ref 29), some (.int (nI j))] [] (ur (ur ω 45 g) 44 f) (fun r ω' => ∃ v : Int32, r = some (.int v) ∧ Q v ω') := by
    intro g hg n
    induction n with
    | zero =>
      intro j f hj hf
      exact vl_177_28 _ (nI j) (br_t (by rw [show j = 4 by omega]; decide) ⟨_, rfl, h g f hg (fun k hk => hf k (by omega))⟩)
    | succ n ih =>
      intro j f hj hf
      have v : vp_in (nI j) 4 := vp_in_nI (by omega) (by decide)
      refine vl_177_28 _ (nI j) (br_f (nI_ge (b := 4) (by omega) (by decide)) ⟨v, v, ?_⟩)
      rw [nI_1, nI_clamp (by omega), ui_ur]
      exact ih (j + 1) _ (by omega) (upd_lt hf)
  have k1 : ∀ n j (g : Nat → Int32), j + n = 28 → (∀ k, k < j → g k = ω.1 37 k) → me_W 177 2 [some (.ref 29), some (.int (nI j))] [] (ur ω 45 g) (fun r ω' => ∃ v : Int32, r = some (.int v) ∧ Q v ω') := by
    intro n
    induction n with
    | zero =>
      intro j g hj hg
      refine vl_177_2 _ (nI j) (br_t (by rw [show j = 28 by omega]; decide) ?_)
      have := k2 g (fun k hk => hg k (by omega)) 4 0 (ω.1 44) rfl (fun k hk => absurd hk (by omega))
      rw [show ur (ur ω 45 g) 44 (ω.1 44) = ur ω 45 g from ur_self (ω := ur ω 45 g) 44] at this
      exact this
    | succ n ih =>
      intro j g hj hg
      have v : vp_in (nI j) 28 := vp_in_nI (by omega) (by decide)
      refine vl_177_2 _ (nI j) (br_f (nI_ge (b := 28) (by omega) (by decide)) ⟨v, v, ?_⟩)
      rw [nI_1, nI_clamp (by omega), ui_ur]
      exact ih (j + 1) _ (by omega) (upd_lt hg)
  have := k1 28 0 (ω.1 45) rfl (fun k hk => absurd hk (by omega))
  rw [ur_self] at this
  exact vc_177 ω this
theorem cpy0 {f g : Nat → Int32} {n k : Nat} (h : k < n) : va_cpy f g 0 0 n k = f k := by
  rw [pk_cpy_in (Nat.zero_le _) (by omega)]
  congr 1
  omega
theorem q_87 {ω : Om} (hR : R ω) : Pr 87 [.ref 0] 177 [.ref 29] ω := by
  intro Q hQ
  obtain ⟨N, nb, h1, h2, h3, ⟨g1, g2, g3, g4, g5, g6, g7, g8, g9, g10, g11⟩, ⟨n1, n2, H, W, hH, n3, n4, hW, hWn, n5, n6⟩, h6⟩ := id hR
  refine t87 (t177 (fun g f hg hf => ?_))
  have e : Q (ω.1 16 0) (ω.1 16 0) _ := hQ (ω.1 16 0) (ui (ui (ui (ui (ui (ur (ur (ui (ui (ui (ui (ui (ur (ur ω 18 (va_cpy (ω.1 14) (ω.1 18) 0 0 28)) 19 (va_cpy (ω.1 15) (ω.1 19) 0 0 4)) 17 2 (ω.1 11 4)) 17 3 (ω.1 16 0)) 17 4 (ω.1 16 1)) 17 5 (ω.1 16 2)) 17 6 (ω.1 16 3)) 45 g) 44 f) 29 31 (ω.1 29 15)) 29 32 (ω.1 29 17)) 29 33 (ω.1 29 18)) 29 34 (ω.1 29 19)) 29 30 (ω.1 29 16)) ⟨N, nb, h1, h2, h3, ⟨g1, g2, g3, g4, g5, g6, g7, g8, g9, g10, g11⟩, ⟨n1, n2, H, W, hH, n3, n4, hW, hWn, n5, n6⟩, Or.inr ⟨n1, n2, fun k hk => (cpy0 hk).trans ((g9 k hk).trans (hg k hk).symm), fun k hk => (cpy0 hk).trans ((g11 k hk).trans (hf k hk).symm), N, H, W, Nat.le_refl _, g2, g3, hH, n3, n4, n5, n6, fun _ => ⟨hW, hWn, fun k hk hk2 => (hg k hk2).trans (g10 k hk hk2)⟩⟩⟩
  have e2 : ω.1 29 16 = ω.1 16 0 := n4.trans n3.symm
  exact q_eq (Q := Q) e2 e
/-! restore -/
theorem t88 {ω : Om} {Q : Int32 → Om → Prop} (c : ω.1 17 2 = ω.1 11 4) (h : Q (ω.1 17 3) (ui (ui (ui (ui (ui (ur (ur ω 14 (va_cpy (ω.1 18) (ω.1 14) 0 0 28)) 15 (va_cpy (ω.1 19) (ω.1 15) 0 0 4)) 16 0 (ω.1 17 3)) 16 1 (ω.1 17 4)) 16 2 (ω.1 17 5)) 16 3 (ω.1 17 6)) 0 11 0)) : me_CtI 88 [.ref 0] ω Q :=
  vc_88 ω (br_t c (vc_38 ω ⟨by decide, by decide, rfl, Or.inl rfl, _, rfl, h⟩))
theorem t178 {ω : Om} {Q : Int32 → Om → Prop} (c1 : ¬ ω.1 29 30 = -1) (c2 : ω.1 29 31 = ω.1 29 15) (h : ∀ g f : Nat → Int32, (∀ k, k < 28 → g k = ω.1 45 k) → (∀ k, k < 4 → f k = ω.1 44 k) → Q (ω.1 29 30) (ui (ui (ui (ui (ur (ur ω 37 g) 38 f) 29 17 (ω.1 29 32)) 29 18 (ω.1 29 33)) 29 19 (ω.1 29 34)) 29 16 (ω.1 29 30))) : me_CtI 178 [.ref 29] ω Q := by
  have k2 : ∀ (g : Nat → Int32), (∀ k, k < 28 → g k = ω.1 45 k) → ∀ n j (f : Nat → Int32), j + n = 4 → (∀ k, k < j → f k = ω.1 44 k) → me_W 178 50 [some (.ref 29), some (.int (nI j))] [] (ur (ur ω 37 g) 38 f) (fun r ω' => ∃ v : Int32, r = some (.int v) ∧ Q v ω') := by
    intro g hg n
    induction n with
    | zero =>
      intro j f hj hf
      exact vl_178_50 _ (nI j) (br_t (by rw [show j = 4 by omega]; decide) ⟨_, rfl, h g f hg (fun k hk => hf k (by omega))⟩)
    | succ n ih =>
      intro j f hj hf
      have v : vp_in (nI j) 4 := vp_in_nI (by omega) (by decide)
      refine vl_178_50 _ (nI j) (br_f (nI_ge (b := 4) (by omega) (by decide)) ⟨v, v, ?_⟩)
      rw [nI_1, nI_clamp (by omega), ui_ur]
      exact ih (j + 1) _ (by omega) (upd_lt hf)
  have k1 : ∀ n j (g : Nat → Int32), j + n = 28 → (∀ k, k < j → g k = ω.1 45 k) → me_W 178 24 [some (.ref 29), some (.int (nI j))] [] (ur ω 37 g) (fun r ω' => ∃ v : Int32, r = some (.int v) ∧ Q v ω') := by
    intro n
    induction n with
    | zero =>
      intro j g hj hg
      refine vl_178_24 _ (nI j) (br_t (by rw [show j = 28 by omega]; decide) ?_)
      have := k2 g (fun k hk => hg k (by omega)) 4 0 (ω.1 38) rfl (fun k hk => absurd hk (by omega))
      rw [show ur (ur ω 37 g) 38 (ω.1 38) = ur ω 37 g from ur_self (ω := ur ω 37 g) 38] at this
      exact this
    | succ n ih =>
      intro j g hj hg
      have v : vp_in (nI j) 28 := vp_in_nI (by omega) (by decide)
      refine vl_178_24 _ (nI j) (br_f (nI_ge (b := 28) (by omega) (by decide)) ⟨v, v, ?_⟩)
      rw [nI_1, nI_clamp (by omega), ui_ur]
      exact ih (j + 1) _ (by omega) (upd_lt hg)
  have := k1 28 0 (ω.1 37) rfl (fun k hk => absurd hk (by omega))
  rw [ur_self] at this
  exact vc_178 ω (br_f c1 (br_t c2 this))
theorem m1_ne {n : Nat} (h : n < 2 ^ 31) : ¬ nI n = -1 := by
  intro e
  have := nI_pos h
  rw [e] at this
  exact this (by decide)
theorem q_88 {ω : Om} (hR : R ω) : Pr 88 [.ref 0] 178 [.ref 29] ω := by
  intro Q hQ
  obtain ⟨N, nb, h1, h2, h3, ⟨g1, g2, g3, g4, g5, g6, g7, g8, g9, g10, g11⟩, h5, h6⟩ := id hR
  rcases h6 with ⟨z1, z2⟩ | ⟨n1, n2, n3, n4, K, H, W, hK, z1, z2, hH, z3, z4, z5, z6, z7⟩
  · exact vc_88 ω (br_f (by rw [z1, g2]; exact fun e => m1_ne (by omega) e.symm) ⟨_, rfl, vc_178 ω (br_t z2 ⟨_, rfl, hQ _ _ hR⟩)⟩)
  · by_cases hKN : K = N
    · subst hKN
      obtain ⟨y1, y2, y3⟩ := z7 rfl
      refine t88 (z1.trans g2.symm) (t178 (by show ¬ ω.1 29 30 = -1; rw [z4]; exact m1_ne (by omega)) (z2.trans g3.symm) (fun g f hg hf => ?_))
      have e : Q (ω.1 17 3) (ω.1 17 3) _ := hQ (ω.1 17 3) (ui (ui (ui (ui (ur (ur (ui (ui (ui (ui (ui (ur (ur ω 14 (va_cpy (ω.1 18) (ω.1 14) 0 0 28)) 15 (va_cpy (ω.1 19) (ω.1 15) 0 0 4)) 16 0 (ω.1 17 3)) 16 1 (ω.1 17 4)) 16 2 (ω.1 17 5)) 16 3 (ω.1 17 6)) 0 11 0) 37 g) 38 f) 29 17 (ω.1 29 32)) 29 18 (ω.1 29 33)) 29 19 (ω.1 29 34)) 29 16 (ω.1 29 30)) ⟨K, nb, h1, h2, h3, ⟨g1, g2, g3, g4, g5, g6, g7, g8, fun k hk => (cpy0 hk).trans ((n3 k hk).trans (hg k hk).symm), fun k hk hk2 => (hg k hk2).trans (y3 k hk hk2), fun k hk => (cpy0 hk).trans ((n4 k hk).trans (hf k hk).symm)⟩, ⟨n1, n2, H, W, hH, z3, z4, y1, y2, z5, z6⟩, Or.inr ⟨n1, n2, n3, n4, K, H, W, hK, z1, z2, hH, z3, z4, z5, z6, z7⟩⟩
      have e2 : ω.1 29 30 = ω.1 17 3 := z4.trans z3.symm
      exact q_eq (Q := Q) e2 e
    · exact vc_88 ω (br_f (by rw [z1, g2]; exact fun e => hKN ((nI_eq (by omega) (by omega)).mp e)) ⟨_, rfl, vc_178 ω (br_f (by rw [z4]; exact m1_ne (by omega)) (br_f (by rw [z2, g3]; exact fun e => hKN ((nI_eq (by omega) (by omega)).mp e)) ⟨_, rfl, hQ _ _ hR⟩))⟩)
/-! sleeper -/
theorem or_nI {a b : Nat} (ha : a < 2 ^ 32) (hb : b < 2 ^ 32) : nI a ||| nI b = nI (a ||| b) := by
  rw [nI_tb (nI a ||| nI b), Int32.toBitVec_or, BitVec.toNat_or, pk_tn ha, pk_tn hb]
theorem and_nI {a b : Nat} (ha : a < 2 ^ 32) (hb : b < 2 ^ 32) : nI a &&& nI b = nI (a &&& b) := by
  rw [nI_tb (nI a &&& nI b), Int32.toBitVec_and, BitVec.toNat_and, pk_tn ha, pk_tn hb]
theorem and_p2 {W N : Nat} (h : W.testBit N = false) : W &&& 2 ^ N = 0 := by
  refine Nat.eq_of_testBit_eq (fun i => ?_)
  rw [Nat.testBit_and, Nat.testBit_two_pow, Nat.zero_testBit]
  by_cases e : N = i
  · subst e
    rw [h]; rfl
  · simp [e]
theorem wk_keep : ∀ n, n < 7 → ∀ w, w < 2 ^ n → nI w &&& (nI (2 ^ n) ^^^ (-1)) = nI w := by decide
theorem t19 {ω : Om} {N : Nat} (hN : N < 7) (e : ω.1 11 4 = nI N) {k c nb : Int32} (hn : nb = ω.1 11 5 ||| (if k = 1 then nI (2 ^ N) else 0)) {Q : Om → Prop} (h : Q (ui (ui (ui (ui ω 12 N k) 13 N c) 11 5 nb) 11 4 (nI (N + 1)))) : me_CtV 19 [.ref 11, .int k, .int c] ω Q := by
  refine vc_19 ω k c ?_
  rw [e, nI_clamp (by omega), nI_1, sh2 N (by omega)]
  have v : vp_in (nI N) 7 := vp_in_nI hN (by decide)
  refine br_f (nI_pos (by omega)) (br_f (nI_ge (b := 7) hN (by decide)) ⟨v, v, fun c1 => ⟨rfl, ?_⟩, fun c1 => ⟨rfl, ?_⟩⟩)
  · rw [if_pos c1] at hn
    rw [← hn]; exact h
  · rw [if_neg c1] at hn
    rw [← hn]; exact h
theorem t136 {ω : Om} {N W : Nat} (hN : N < 7) (e : ω.1 29 15 = nI N) (h0 : ω.1 29 16 = nI 0) (hW : W < 2 ^ N) (eW : ω.1 29 17 = nI W) {k c : Int32} (hk : vp_in k 5) (hc : vp_in c 100) {Q : Int32 → Om → Prop} (h : ∀ g : Nat → Int32, (∀ j, 4 * N ≤ j → j < 4 * N + 4 → g j = 0) → (∀ j, j < 4 * N ∨ 4 * N + 4 ≤ j → g j = ω.1 37 j) → Q (nI N) (ui (ui (ur (ui (ui ω 35 N k) 36 N c) 37 g) 29 17 (nI W)) 29 15 (nI (N + 1)))) : me_CtI 136 [.ref 29, .int k, .int c] ω Q := by
  have key : ∀ n j (g : Nat → Int32), j + n = 4 → (∀ i, 4 * N ≤ i → i < 4 * N + j → g i = 0) → (∀ i, i < 4 * N ∨ 4 * N + 4 ≤ i → g i = ω.1 37 i) → me_W 136 71 [some (.ref 29), none, none, some (.int (nI j))] [] (ur (ui (ui ω 35 N k) 36 N c) 37 g) (fun r ω' => ∃ v : Int32, r = some (.int v) ∧ Q v ω') := by
    intro n
    induction n with
    | zero =>
      intro j g hj h1 h2
      refine vl_136_71 _ (nI j) (br_t (by rw [show j = 4 by omega]; decide) ?_)
      have e1 : (ur (ui (ui ω 35 N k) 36 N c) 37 g).1 29 15 = nI N := e
      have e2 : (ur (ui (ui ω 35 N k) 36 N c) 37 g).1 29 17 = nI W := eW
      rw [e1, e2, sh2 N (by omega), wk_keep N hN W hW, nI_1, nI_pred]
      exact ⟨_, rfl, h g (fun i a b => h1 i a (by omega)) h2⟩
    | succ n ih =>
      intro j g hj h1 h2
      refine vl_136_71 _ (nI j) (br_f (nI_ge (b := 4) (by omega) (by decide)) ?_)
      have e1 : (ur (ui (ui ω 35 N k) 36 N c) 37 g).1 29 15 = nI N := e
      rw [e1, ix4', nI_clamp (by omega), nI_1, ui_ur]
      refine ⟨vp_in_nI (by omega) (by decide), ih (j + 1) _ (by omega) (fun i a b => ?_) (fun i a => ?_)⟩
      · unfold upd
        by_cases q : i = 4 * N + j
        · rw [if_pos q]
        · rw [if_neg q]; exact h1 i a (by omega)
      · unfold upd
        rw [if_neg (by omega)]
        exact h2 i a
  have v : vp_in (nI N) 7 := vp_in_nI hN (by decide)
  have k0 := key 4 0 (ω.1 37) rfl (fun i a b => absurd a (by omega)) (fun i _ => rfl)
  rw [show ur (ui (ui ω 35 N k) 36 N c) 37 (ω.1 37) = ui (ui ω 35 N k) 36 N c from ur_self (ω := ui (ui ω 35 N k) 36 N c) 37] at k0
  refine vc_136 ω k c (t123n 5 (by decide) (by decide) (fun _ => br_f (by decide) (t123n 100 (by decide) (by decide) (fun _ => br_f (by decide) ?_) (fun q => absurd hc q))) (fun q => absurd hk q))
  rw [h0, e, nI_clamp (by omega)]
  exact br_t (by decide) (br_f (fun q => by have := (nI_eq (b := 7) (by omega) (by decide)).mp q; omega) ⟨v, v, k0⟩)
theorem q_70 {ω : Om} (hR : R ω) (a b : Int32) : Pr 70 [.ref 0, .int a, .int b] 136 [.ref 29, .int a, .int b] ω := by
  intro Q hQ
  obtain ⟨N, nb, h1, h2, h3, ⟨g1, g2, g3, g4, g5, g6, g7, g8, g9, g10, g11⟩, ⟨n1, n2, H, W, hH, n3, n4, hW, hWn, n5, n6⟩, h6⟩ := id hR
  by_cases c : vp_in a 5
  · by_cases d : vp_in b 100
    · by_cases hz : H = 0
      · subst hz
        by_cases h7 : N = 7
        · subst h7
          exact vc_70 ω a b (t18 (fun _ => br_f (by decide) (t93 (fun _ => br_f (by decide) (br_t (by rw [n3]; decide) (br_f (by rw [g2]; decide) ⟨_, rfl, vc_136 ω a b (t123n 5 (by decide) (by decide) (fun _ => br_f (by decide) (t123n 100 (by decide) (by decide) (fun _ => br_f (by decide) (br_t (by rw [n4]; decide) (br_t (by rw [g3]; rfl) ⟨_, rfl, hQ _ _ hR⟩))) (fun q => absurd d q))) (fun q => absurd c q))⟩))) (fun q => absurd d q))) (fun q => absurd c q))
        · have hN : N < 7 := by omega
          have hp := pow7 g1
          obtain ⟨nb', hb1, hb2, hb3, hb4⟩ : ∃ nb' : Nat, nb' < 2 ^ (N + 1) ∧ nI nb' = ω.1 11 5 ||| (if a = 1 then nI (2 ^ N) else 0) ∧ (∀ s, s < N + 1 → (nb'.testBit s = true ↔ upd (ω.1 35) N a s = 1)) ∧ W &&& nb' = 0 := by
            have hbN : nb.testBit N = false := Nat.testBit_lt_two_pow g4
            have hwN : W.testBit N = false := Nat.testBit_lt_two_pow hW
            by_cases k : a = 1
            · refine ⟨nb ||| 2 ^ N, Nat.or_lt_two_pow (by rw [Nat.pow_succ]; omega) (Nat.pow_lt_pow_right (by decide) (by omega)), ?_, fun s hs => ?_, ?_⟩
              · rw [if_pos k, g5, or_nI (by omega) (by omega)]
              · rw [Nat.testBit_or, Nat.testBit_two_pow]
                unfold upd
                by_cases q : s = N
                · rw [if_pos q, q]
                  simp [k]
                · rw [if_neg q, ← g6 s (by omega)]
                  have : ¬ N = s := fun z => q z.symm
                  simp [this]
              · rw [Nat.and_or_distrib_left, hWn, and_p2 hwN]
                rfl
            · refine ⟨nb, by rw [Nat.pow_succ]; omega, ?_, fun s hs => ?_, hWn⟩
              · rw [if_neg k, g5]
                simp
              · unfold upd
                by_cases q : s = N
                · rw [if_pos q, q, hbN]
                  simp [k]
                · rw [if_neg q]; exact g6 s (by omega)
          have e3 : (ui (ui (ui (ui (ui ω 12 N a) 13 N b) 11 5 (nI nb')) 11 4 (nI (N + 1))) 0 11 0).1 29 15 = nI N := g3
          have e4 : (ui (ui (ui (ui (ui ω 12 N a) 13 N b) 11 5 (nI nb')) 11 4 (nI (N + 1))) 0 11 0).1 29 16 = nI 0 := n4
          have e5 : (ui (ui (ui (ui (ui ω 12 N a) 13 N b) 11 5 (nI nb')) 11 4 (nI (N + 1))) 0 11 0).1 29 17 = nI W := n6
          refine vc_70 ω a b (t18 (fun _ => br_f (by decide) (t93 (fun _ => br_f (by decide) (br_t (by rw [n3]; decide) (br_t (by rw [g2]; exact nI_lt (b := 7) hN (by decide)) (t19 hN g2 hb2 ⟨Or.inl rfl, _, rfl, t136 hN e3 e4 hW e5 c d (fun g hg1 hg2 => ?_)⟩)))) (fun q => absurd d q))) (fun q => absurd c q))
          have hr : R (ui (ui (ur (ui (ui (ui (ui (ui (ui (ui ω 12 N a) 13 N b) 11 5 (nI nb')) 11 4 (nI (N + 1))) 0 11 0) 35 N a) 36 N b) 37 g) 29 17 (nI W)) 29 15 (nI (N + 1))) := by
            have hg : ∀ k, k < 28 → g k = ω.1 37 k := by
              intro k hk
              by_cases q : 4 * N ≤ k ∧ k < 4 * N + 4
              · rw [hg1 k q.1 q.2, g10 k q.1 hk]
              · exact hg2 k (by omega)
            refine ⟨N + 1, nb', h1, h2, h3, ⟨by omega, rfl, rfl, hb1, rfl, hb3, upd_ext g7, upd_ext g8, fun k hk => (g9 k hk).trans (hg k hk).symm, fun k hk hk2 => (hg k hk2).trans (g10 k (by omega) hk2), g11⟩, ⟨n1, n2, 0, W, by omega, n3, n4, by rw [Nat.pow_succ]; omega, hb4, n5, rfl⟩, ?_⟩
            rcases h6 with z | ⟨m1, m2, m3, m4, K, H, W, hK, z1⟩
            · exact Or.inl z
            · exact Or.inr ⟨m1, m2, m3, m4, K, H, W, by omega, z1.1, z1.2.1, z1.2.2.1, z1.2.2.2.1, z1.2.2.2.2.1, z1.2.2.2.2.2.1, z1.2.2.2.2.2.2.1, fun q => absurd q (by omega)⟩
          have := hQ (nI N) _ hr
          have e6 : nI (N + 1) - (1 : Int32) = nI N := nI_pred N
          exact q_eq' (Q := Q) e6 this
      · exact vc_70 ω a b (t18 (fun _ => br_f (by decide) (t93 (fun _ => br_f (by decide) (br_f (by rw [n3]; exact nI_nle (by omega) (by omega)) ⟨_, rfl, vc_136 ω a b (t123n 5 (by decide) (by decide) (fun _ => br_f (by decide) (t123n 100 (by decide) (by decide) (fun _ => br_f (by decide) (br_f (by rw [n4]; exact nI_nle (by omega) (by omega)) ⟨_, rfl, hQ _ _ hR⟩)) (fun q => absurd d q))) (fun q => absurd c q))⟩)) (fun q => absurd d q))) (fun q => absurd c q))
    · exact vc_70 ω a b (t18 (fun _ => br_f (by decide) (t93 (fun q => absurd q d) (fun _ => br_t rfl ⟨_, rfl, vc_136 ω a b (t123n 5 (by decide) (by decide) (fun _ => br_f (by decide) (t123n 100 (by decide) (by decide) (fun q => absurd q d) (fun _ => br_t rfl ⟨_, rfl, hQ _ _ hR⟩))) (fun q => absurd c q))⟩))) (fun q => absurd c q))
  · exact vc_70 ω a b (t18 (fun q => absurd q c) (fun _ => br_t rfl ⟨_, rfl, vc_136 ω a b (t123n 5 (by decide) (by decide) (fun q => absurd q c) (fun _ => br_t rfl ⟨_, rfl, hQ _ _ hR⟩))⟩))
