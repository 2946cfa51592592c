/-! GATHER: the choices, in their order -/
def Gf (nb : Nat) (mv : Nat → Nat) (ω : Om) (n : Nat) (L : Nat → Nat) : Prop := ω.1 20 4 = nI n ∧ ∀ i, i < n → ω.1 21 i = nI (L i) ∧ ω.1 22 i = nI (dif (L i) nb) ∧ ω.2 23 i = jI (mv (L i) : Int)
theorem t15 {ω : Om} {n nb c gv : Nat} (hn : n < 28) (e : ω.1 20 4 = nI n) (eb : ω.1 11 5 = nI nb) (hc : c < 128) (hb : nb < 128) (hg : gv < 2 ^ 31) {Q : Om → Prop} (h : Q (ui (ul (ui (ui ω 21 n (nI c)) 22 n (nI (dif c nb))) 23 n (jI (gv : Int))) 20 4 (nI (n + 1)))) : me_CtV 15 [.ref 20, .ref 11, .int (nI c), .int (nI gv)] ω Q := by
  have v : vp_in (nI n) 28 := vp_in_nI hn (by decide)
  refine vc_15 ω (nI c) (nI gv) ?_
  rw [e, nI_clamp (by omega)]
  refine br_f (nI_pos (by omega)) (br_f (nI_ge (b := 28) hn (by decide)) ⟨v, t31 ⟨v, ?_⟩⟩)
  have e2 : (ui ω 21 n (nI c)).1 20 4 = nI n := e
  have e3 : (ui ω 21 n (nI c)).1 11 5 = nI nb := eb
  rw [e2, e3, dif_I hc hb, nI_clamp (by omega), nI_1, nI_J hg]
  exact ⟨v, rfl, h⟩
theorem Gf.add {nb n c : Nat} {mv : Nat → Nat} {ω : Om} {L : Nat → Nat} (h : Gf nb mv ω n L) : Gf nb mv (ui (ul (ui (ui ω 21 n (nI c)) 22 n (nI (dif c nb))) 23 n (jI (mv c : Int))) 20 4 (nI (n + 1))) (n + 1) (updN L n c) := by
  refine ⟨ui_s, fun i hi => ?_⟩
  by_cases q : i = n
  · subst q
    have us : updN L i c i = c := if_pos rfl
    rw [us]
    refine ⟨?_, ?_, ?_⟩
    · show (ui ω 21 i (nI c)).1 21 i = _
      exact ui_s
    · show (ui (ui ω 21 i (nI c)) 22 i (nI (dif c nb))).1 22 i = _
      exact ui_s
    · show (ul (ui (ui ω 21 i (nI c)) 22 i (nI (dif c nb))) 23 i (jI (mv c : Int))).2 23 i = _
      exact ul_s
  · have un : updN L n c i = L i := if_neg q
    obtain ⟨a, b, d⟩ := h.2 i (by omega)
    rw [un]
    refine ⟨?_, ?_, ?_⟩
    · show (ui ω 21 n (nI c)).1 21 i = _
      rw [ui_n q]; exact a
    · show (ui (ui ω 21 n (nI c)) 22 n (nI (dif c nb))).1 22 i = _
      rw [ui_n q]; exact b
    · show (ul (ui (ui ω 21 n (nI c)) 22 n (nI (dif c nb))) 23 n (jI (mv c : Int))).2 23 i = _
      rw [ul_n q]; exact d
def tri : Nat → Nat
  | 0 => 0
  | h + 1 => tri h + h
theorem tri_lt : ∀ h, h < 7 → ∀ l, l < h → 7 + tri h + l < 28 := by decide
theorem P1_s {al : Nat → Nat} {j : Nat} (S : Nat) : P1 al (j + 1) S ↔ (P1 al j S ∨ (0 < al j ∧ S = 2 ^ j)) := by
  unfold P1
  constructor
  · intro ⟨s, a, b, c⟩
    by_cases q : s = j
    · subst q; exact Or.inr ⟨b, c⟩
    · exact Or.inl ⟨s, by omega, b, c⟩
  · rintro (⟨s, a, b, c⟩ | ⟨b, c⟩)
    · exact ⟨s, by omega, b, c⟩
    · exact ⟨j, by omega, b, c⟩
theorem P2_o {hv : Nat} {al : Nat → Nat} (S : Nat) : P1 al 7 S ↔ P2 hv al 1 0 S := by
  unfold P2
  constructor
  · exact Or.inl
  · rintro (q | ⟨h', _, l', a, b, _⟩)
    · exact q
    · exact absurd b (by omega)
theorem P2_n {hv : Nat} {al : Nat → Nat} {h : Nat} (S : Nat) : P2 hv al h h S ↔ P2 hv al (h + 1) 0 S := by
  unfold P2
  constructor
  · rintro (q | ⟨h', a, l', b, c, d⟩)
    · exact Or.inl q
    · exact Or.inr ⟨h', a, l', b, by omega, d⟩
  · rintro (q | ⟨h', a, l', b, c, d⟩)
    · exact Or.inl q
    · exact Or.inr ⟨h', a, l', b, by omega, d⟩
theorem P2_s {hv : Nat} {al : Nat → Nat} {h l : Nat} (hh : h < 7) (hl : l < h) (S : Nat) : P2 hv al h (l + 1) S ↔ (P2 hv al h l S ∨ ((al l < boN hv (al l) (al h) ∧ al h < boN hv (al l) (al h)) ∧ S = 2 ^ h ||| 2 ^ l)) := by
  unfold P2
  constructor
  · rintro (q | ⟨h', a, l', b, c, d, e, z⟩)
    · exact Or.inl (Or.inl q)
    · by_cases w : h' = h ∧ l' = l
      · obtain ⟨rfl, rfl⟩ := w
        exact Or.inr ⟨⟨d, e⟩, z⟩
      · exact Or.inl (Or.inr ⟨h', a, l', b, by omega, d, e, z⟩)
  · rintro ((q | ⟨h', a, l', b, c, d, e, z⟩) | ⟨⟨d, e⟩, z⟩)
    · exact Or.inl q
    · exact Or.inr ⟨h', a, l', b, by omega, d, e, z⟩
    · exact Or.inr ⟨h, hh, l, hl, by omega, d, e, z⟩
theorem al_le {N hv : Nat} {kd : Nat → Int32} {g : Nat → Nat} {H s : Nat} : alN N hv kd g H s ≤ hv := by
  by_cases c : mayN N kd H s
  · rw [al_y c]
    split <;> omega
  · rw [al_n c]; omega
/-- what holds while choices are gathered -/
def GW (nb hv : Nat) (al mv : Nat → Nat) (P : Nat → Prop) (b d : Nat) (ω0 ω : Om) : Prop := Fr [20, 21, 22, 24] [23] ω0 ω ∧ (∀ s, s < d → ω.1 24 s = nI (al s)) ∧ ∃ (n : Nat) (L : Nat → Nat), n ≤ b ∧ Gf nb mv ω n L ∧ GI P n L
theorem fr_add {ω0 ω : Om} {n : Nat} {a b : Int32} {c : Int64} {d : Int32} (h : Fr [20, 21, 22, 24] [23] ω0 ω) : Fr [20, 21, 22, 24] [23] ω0 (ui (ul (ui (ui ω 21 n a) 22 n b) 23 n c) 20 4 d) := Fr.ui (Fr.ul (Fr.ui (Fr.ui h rfl) rfl) rfl) rfl
theorem t14 {N nb : Nat} {kd : Nat → Int32} {sk hm : Nat → Nat} {ω : Om} (hp : HP N nb kd sk hm) (hc : HC N nb kd sk hm ω) {H t : Nat} (hH : H < 6) (ht : t < 4) {Q : Om → Prop} (h : ∀ ω', Fr [20, 21, 22, 24] [23] ω ω' → ∀ (n : Nat) (L : Nat → Nat), n ≤ 28 → Gf nb (mnd N (hm t) (gM kd sk t H)) ω' n L → GI (P2 (hm t) (alN N (hm t) kd (gM kd sk t H) H) 7 0) n L → Q ω') : me_CtV 14 [.ref 20, .ref 11, .int (nI H), .int (nI t)] ω Q := by
  obtain ⟨hN, hnb, hk, hsk, hhm⟩ := id hp
  have h7 := pow7 hN
  have ht100 := hhm t ht
  have ale : ∀ s, alN N (hm t) kd (gM kd sk t H) H s ≤ hm t := fun s => al_le
  have bol : ∀ a b, boN (hm t) a b ≤ hm t := fun a b => (bo_le (hm t) a b).2
  obtain ⟨al, eal⟩ : ∃ al, al = alN N (hm t) kd (gM kd sk t H) H := ⟨_, rfl⟩
  obtain ⟨mv, emv⟩ : ∃ mv, mv = mnd N (hm t) (gM kd sk t H) := ⟨_, rfl⟩
  rw [← eal] at ale
  have mv1 : ∀ s, 0 < al s → mv (2 ^ s) = al s := fun s q => by
    rw [eal] at q ⊢
    rw [emv]
    exact P1_mnd q
  have mv2 : ∀ h l, l < h → 0 < al l → 0 < al h → mv (2 ^ h ||| 2 ^ l) = boN (hm t) (al l) (al h) := fun h l a b c => by
    rw [eal] at b c ⊢
    rw [emv]
    exact P2_mnd a b c
  rw [← eal, ← emv] at h
  -- two
  have k2 : ∀ (hh : Nat), hh < 7 → (∀ ω', GW nb (hm t) al mv (P2 (hm t) al (hh + 1) 0) (7 + tri (hh + 1)) 7 ω ω' → me_W 14 113 [some (.ref 20), some (.ref 11), none, none, some (.int (nI (hm t))), some (.int (nI (hh + 1))), none, none] [] ω' (fun r ω' => r = none ∧ Q ω')) → ∀ n l ω', l + n = hh → GW nb (hm t) al mv (P2 (hm t) al hh l) (7 + tri hh + l) 7 ω ω' → me_W 14 123 [some (.ref 20), some (.ref 11), none, none, some (.int (nI (hm t))), some (.int (nI hh)), some (.int (nI l)), none] [] ω' (fun r ω' => r = none ∧ Q ω') := by
    intro hh hh7 next n
    induction n with
    | zero =>
      intro l ω' hl hI
      obtain rfl : l = hh := by omega
      refine vl_14_123 ω' (nI (hm t)) (nI l) (nI l) (br_t (Int32.le_refl _) ?_)
      rw [nI_1]
      obtain ⟨hF, ha, m, L, hm1, hG, hI⟩ := hI
      exact next ω' ⟨hF, ha, m, L, by show m ≤ 7 + (tri l + l); omega, hG, hI.congr P2_n⟩
    | succ n ih =>
      intro l ω' hl hI
      obtain ⟨hF, ha, m, L, hm1, hG, hI⟩ := hI
      have a1 := ale l
      have a2 := ale hh
      have vl : vp_in (nI l) 7 := vp_in_nI (by omega) (by decide)
      have vh : vp_in (nI hh) 7 := vp_in_nI (by omega) (by decide)
      have eb : (if nI (al l + al hh) < nI (hm t) then nI (al l + al hh) else nI (hm t)) = nI (boN (hm t) (al l) (al hh)) := by
        unfold boN
        by_cases q : al l + al hh < hm t
        · rw [if_pos q, if_pos (nI_lt q (by omega))]
        · rw [if_neg q, if_neg (fun z => q ((nI_ltI (by omega) (by omega)).mp z))]
      have hbo := bol (al l) (al hh)
      have tl := tri_lt hh hh7 l (by omega)
      refine vl_14_123 ω' (nI (hm t)) (nI hh) (nI l) (br_f (nI_ge (by omega) (by omega)) ?_)
      rw [nI_clamp (by omega : l < 2 ^ 31), nI_clamp (by omega : hh < 2 ^ 31), ha l (by omega), ha hh hh7, nI_add, nI_1, eb]
      have skip : ¬ (al l < boN (hm t) (al l) (al hh) ∧ al hh < boN (hm t) (al l) (al hh)) → me_W 14 123 [some (.ref 20), some (.ref 11), none, none, some (.int (nI (hm t))), some (.int (nI hh)), some (.int (nI (l + 1))), none] [] ω' (fun r ω' => r = none ∧ Q ω') := fun q => ih (l + 1) ω' (by omega) ⟨hF, ha, m, L, by omega, hG, hI.congr (fun S => by rw [P2_s hh7 (by omega)]; exact ⟨Or.inl, fun z => z.elim id (fun w => absurd w.1 q)⟩)⟩
      refine ⟨vl, vh, vl, fun c => skip (fun q => ?_), fun c => ⟨vh, fun c2 => skip (fun q => ?_), fun c2 => ?_⟩⟩
      · have := (nI_leI (by omega) (by omega)).mp c
        omega
      · have := (nI_leI (by omega) (by omega)).mp c2
        omega
      · have d1 : al l < boN (hm t) (al l) (al hh) := by
          by_cases q : al l < boN (hm t) (al l) (al hh)
          · exact q
          · exact absurd (nI_le (by omega) (by omega)) c
        have d2 : al hh < boN (hm t) (al l) (al hh) := by
          by_cases q : al hh < boN (hm t) (al l) (al hh)
          · exact q
          · exact absurd (nI_le (by omega) (by omega)) c2
        have bl := (bo_le (hm t) (al l) (al hh)).1
        have k := ky_2 hh hh7 l (by omega)
        rw [sh2 hh (by omega), sh2 l (by omega), or_nI (Nat.lt_trans (ky_1 hh hh7).2.2 (by decide)) (Nat.lt_trans (ky_1 l (by omega)).2.2 (by decide))]
        have eb2 : ω'.1 11 5 = nI nb := by rw [hF.1 11 rfl]; exact hc.2.1
        refine t15 (by omega) hG.1 eb2 k.2.2 (by omega) (by omega) ?_
        have ej : jI ((boN (hm t) (al l) (al hh) : Nat) : Int) = jI ((mv (2 ^ hh ||| 2 ^ l) : Nat) : Int) := by rw [mv2 hh l (by omega) (by omega) (by omega)]
        rw [ej]
        refine ih (l + 1) _ (by omega) ⟨fr_add hF, fun s hs => ?_, m + 1, updN L m (2 ^ hh ||| 2 ^ l), by omega, hG.add, hI.add (fun S => ?_) (fun S hS => ?_)⟩
        · show ω'.1 24 s = _
          exact ha s hs
        · rw [P2_s hh7 (by omega)]
          exact ⟨fun z => z.imp id (fun w => w.2), fun z => z.imp id (fun w => ⟨⟨d1, d2⟩, w⟩)⟩
        · rcases hS with ⟨s, hs, -, rfl⟩ | ⟨h', e1, l', e2, e3, -, -, rfl⟩
          · have k1 := ky_1 s hs
            have p1 : 0 < 2 ^ hh := Nat.pow_pos (by decide)
            have p3 : 0 < 2 ^ l := Nat.pow_pos (by decide)
            omega
          · exact ky_22 hh hh7 l (by omega) h' e1 l' e2 e3
  have k1 : ∀ n hh ω', hh + n = 7 → GW nb (hm t) al mv (P2 (hm t) al hh 0) (7 + tri hh) 7 ω ω' → me_W 14 113 [some (.ref 20), some (.ref 11), none, none, some (.int (nI (hm t))), some (.int (nI hh)), none, none] [] ω' (fun r ω' => r = none ∧ Q ω') := by
    intro n
    induction n with
    | zero =>
      intro hh ω' hn hI
      obtain rfl : hh = 7 := by omega
      obtain ⟨hF, ha, m, L, hm1, hG, hI⟩ := hI
      exact vl_14_113 ω' _ _ (br_t (by decide) ⟨rfl, h ω' hF m L hm1 hG hI⟩)
    | succ n ih =>
      intro hh ω' hn hI
      exact vl_14_113 ω' _ _ (br_f (nI_ge (b := 7) (by omega) (by decide)) (k2 hh (by omega) (fun ω'' hI' => ih (hh + 1) ω'' (by omega) hI') hh 0 ω' (by omega) hI))
  -- one
  have k0 : ∀ n j ω', j + n = 7 → GW nb (hm t) al mv (P1 al j) j j ω ω' → me_W 14 15 [some (.ref 20), some (.ref 11), some (.int (nI H)), some (.int (nI t)), some (.int (nI (hm t))), some (.int (nI j)), none, none] [] ω' (fun r ω' => r = none ∧ Q ω') := by
    intro n
    induction n with
    | zero =>
      intro j ω' hn hI
      obtain rfl : j = 7 := by omega
      obtain ⟨hF, ha, m, L, hm1, hG, hI⟩ := hI
      exact vl_14_15 ω' _ _ _ _ (br_t (by decide) (k1 6 1 ω' rfl ⟨hF, ha, m, L, by show m ≤ 7 + 0; omega, hG, hI.congr P2_o⟩))
    | succ n ih =>
      intro j ω' hn hI
      obtain ⟨hF, ha, m, L, hm1, hG, hI⟩ := hI
      have hc' : HC N nb kd sk hm ω' := hc.fr hF ⟨rfl, rfl, rfl, rfl⟩
      obtain ⟨c1, c2, c3, c4, c5⟩ := id hc'
      have vj : vp_in (nI j) 7 := vp_in_nI (by omega) (by decide)
      have aj := ale j
      have tail : ∀ x : Int32, x = nI (al j) → (vp_in (nI j) 7 ∧ (vp_in (nI j) 7 ∧ ((((ui ω' 24 (nI j).toNatClampNeg x).1 24 (nI j).toNatClampNeg) ≤ 0 → me_W 14 15 [some (.ref 20), some (.ref 11), some (.int (nI H)), some (.int (nI t)), some (.int (nI (hm t))), some (.int (nI j + (1 : Int32))), none, none] [] (ui ω' 24 (nI j).toNatClampNeg x) (fun r ω' => r = none ∧ Q ω')) ∧ (¬ ((ui ω' 24 (nI j).toNatClampNeg x).1 24 (nI j).toNatClampNeg) ≤ 0 → (vp_in (nI j) 7 ∧ me_CtV 15 [.ref 20, .ref 11, .int ((1 : Int32) <<< (nI j &&& 31)), .int ((ui ω' 24 (nI j).toNatClampNeg x).1 24 (nI j).toNatClampNeg)] (ui ω' 24 (nI j).toNatClampNeg x) (fun ω2 => me_W 14 15 [some (.ref 20), some (.ref 11), some (.int (nI H)), some (.int (nI t)), some (.int (nI (hm t))), some (.int (nI j + (1 : Int32))), none, none] [] ω2 (fun r ω' => r = none ∧ Q ω'))))))) := by
        intro x ex
        rw [nI_clamp (by omega), nI_1, ui_s, ex]
        have hF2 : Fr [20, 21, 22, 24] [23] ω (ui ω' 24 j (nI (al j))) := Fr.ui hF rfl
        have ha2 : ∀ s, s < j + 1 → (ui ω' 24 j (nI (al j))).1 24 s = nI (al s) := by
          intro s hs
          by_cases q : s = j
          · subst q; exact ui_s
          · rw [ui_n q]; exact ha s (by omega)
        have hG2 : Gf nb mv (ui ω' 24 j (nI (al j))) m L := hG
        refine ⟨vj, vj, fun q => ?_, fun q => ⟨vj, ?_⟩⟩
        · have z : al j = 0 := by
            have := (nI_leI (b := 0) (by omega) (by decide)).mp q
            omega
          exact ih (j + 1) _ (by omega) ⟨hF2, ha2, m, L, by omega, hG2, hI.congr (fun S => by rw [P1_s]; exact ⟨Or.inl, fun w => w.elim id (fun y => absurd y.1 (by omega))⟩)⟩
        · have z : 0 < al j := by
            by_cases y : 0 < al j
            · exact y
            · exact absurd (nI_le (b := 0) (by omega) (by decide)) q
          have k := ky_1 j (by omega)
          rw [sh2 j (by omega)]
          refine t15 (by omega) hG2.1 (show (ui ω' 24 j (nI (al j))).1 11 5 = nI nb from c2) k.2.2 (by omega) (by omega) ?_
          have ej : jI ((al j : Nat) : Int) = jI ((mv (2 ^ j) : Nat) : Int) := by rw [mv1 j z]
          rw [ej]
          refine ih (j + 1) _ (by omega) ⟨fr_add hF2, fun s hs => ?_, m + 1, updN L m (2 ^ j), by omega, hG2.add, hI.add (fun S => ?_) (fun S hS => ?_)⟩
          · show (ui ω' 24 j (nI (al j))).1 24 s = _
            exact ha2 s hs
          · rw [P1_s]
            exact ⟨fun w => w.imp id (fun y => y.2), fun w => w.imp id (fun y => ⟨z, y⟩)⟩
          · obtain ⟨s, hs, -, rfl⟩ := hS
            exact ky_11 j (by omega) s hs
      refine vl_14_15 ω' _ _ _ _ (br_f (nI_ge (b := 7) (by omega) (by decide)) ?_)
      refine t20 hN c1 (fun q => br_f (by decide) ?_) (fun q => br_t rfl (br_t rfl (tail 0 ?_)))
      · have hjN : j < N := by
          by_cases y : j < N
          · exact y
          · rw [vp_in_iff, nI_toInt (by omega)] at q
            omega
        refine t33 (W := 0) (by omega) hH (by decide) (fun _ => Nat.zero_testBit _) (fun w => br_f (by decide) (br_f (by decide) (t34 (by omega) ht hH (tail _ ?_)))) (fun w => br_t rfl (br_t rfl (tail 0 ?_)))
        · rw [c3 j (by omega), c4 _ (by omega), mdF_N (hsk _ (by omega)) hH]
          have hy : mayN N kd H j := ⟨hjN, by rw [c3 j (by omega)] at w; exact w.2⟩
          have hg : gM kd sk t H j < 100 := mdN_lt (hsk _ (by omega))
          have eg : mdN (kd j) (sk (j * 4 + t)) H = gM kd sk t H j := rfl
          rw [eg, eal, al_y hy]
          by_cases y : gM kd sk t H j < hm t
          · rw [if_pos y, if_pos (nI_lt y (by omega))]
          · rw [if_neg y, if_neg (fun z => y ((nI_ltI (by omega) (by omega)).mp z))]
        · have hy : ¬ mayN N kd H j := fun y => w ⟨Nat.zero_testBit _, by rw [c3 j (by omega)]; exact y.2⟩
          rw [eal, al_n hy]
          rfl
      · have hy : ¬ mayN N kd H j := fun y => q (vp_in_nI y.1 (by omega))
        rw [eal, al_n hy]
        rfl
  refine vc_14 ω (nI H) (nI t) (t26 (fun b hb e => ?_) (fun q => absurd (vp_in_nI ht (by decide)) q))
  obtain rfl : t = b := (nI_eq (by omega) (by omega)).mp e
  rw [hc.2.2.2.2 t ht]
  exact k0 7 0 _ rfl ⟨Fr.ui (Fr.o _ _ ω) rfl, fun s hs => absurd hs (by omega), 0, fun _ => 0, Nat.le_refl _, ⟨ui_s, fun i hi => absurd hi (by omega)⟩, GI.o (fun S ⟨s, hs, _⟩ => absurd hs (by omega)) _⟩
