/-! WORST: what is left stands below zero -/
noncomputable def woT (N nb : Nat) (kd : Nat → Int32) (sk hm : Nat → Nat) (f : Nat → Int) (ch : Nat → Nat → Bool) (h : Nat) : Nat → Nat → Int
  | 0, A => f A
  | t + 1, A => if ch h t = true then mnZ (woT N nb kd sk hm f ch h t A) (mxA N nb kd sk hm 1 f h t A - hm t) else woT N nb kd sk hm f ch h t A
noncomputable def woF (N nb : Nat) (kd : Nat → Int32) (sk hm : Nat → Nat) (ch : Nat → Nat → Bool) : Nat → Nat → Int
  | 0, _ => 0
  | n + 1, A => woT N nb kd sk hm (woF N nb kd sk hm ch n) ch (5 - n) 4 A
theorem woT_bd {N nb : Nat} {kd : Nat → Int32} {sk hm : Nat → Nat} {f : Nat → Int} {ch : Nat → Nat → Bool} {h : Nat} {lo : Int} (hhm : ∀ t, t < 4 → hm t < 100) (hb : ∀ B, B < 2 ^ N → lo ≤ f B ∧ f B ≤ 0) : ∀ t, t ≤ 4 → ∀ A, A < 2 ^ N → lo - 100 ≤ woT N nb kd sk hm f ch h t A ∧ woT N nb kd sk hm f ch h t A ≤ 0
  | 0, _, A, hA => by
    have := hb A hA
    show lo - 100 ≤ f A ∧ f A ≤ 0
    omega
  | t + 1, ht, A, hA => by
    have ih := woT_bd (N := N) (nb := nb) (kd := kd) (sk := sk) (ch := ch) (h := h) hhm hb t (by omega) A hA
    have m := mxA_bd (N := N) (nb := nb) (kd := kd) (sk := sk) (hm := hm) (u := 1) (H := h) (t := t) (by decide) (hhm t (by omega)) hA hb
    have h1 := hhm t (by omega)
    unfold woT mnZ
    split
    · split <;> omega
    · exact ih
theorem woF_bd {N nb : Nat} {kd : Nat → Int32} {sk hm : Nat → Nat} {ch : Nat → Nat → Bool} (hhm : ∀ t, t < 4 → hm t < 100) : ∀ (n A : Nat), A < 2 ^ N → -(100 * (n : Int)) ≤ woF N nb kd sk hm ch n A ∧ woF N nb kd sk hm ch n A ≤ 0
  | 0, A, _ => ⟨by show -(100 * ((0 : Nat) : Int)) ≤ 0; omega, Int.le_refl _⟩
  | n + 1, A, hA => by
    have := woT_bd (N := N) (nb := nb) (kd := kd) (sk := sk) (ch := ch) (h := 5 - n) hhm (woF_bd (N := N) (nb := nb) (kd := kd) (sk := sk) (ch := ch) hhm n) 4 (Nat.le_refl _) A hA
    show -(100 * ((n + 1 : Nat) : Int)) ≤ woT N nb kd sk hm (woF N nb kd sk hm ch n) ch (5 - n) 4 A ∧ woT N nb kd sk hm (woF N nb kd sk hm ch n) ch (5 - n) 4 A ≤ 0
    omega
theorem woT_mn {N nb : Nat} {kd : Nat → Int32} {sk hm : Nat → Nat} {f : Nat → Int} {ch : Nat → Nat → Bool} {h : Nat} (hf : Mnt N f) : ∀ t, Mnt N (woT N nb kd sk hm f ch h t)
  | 0 => hf
  | t + 1 => by
    intro A B hA hB hAB
    have ih := woT_mn (N := N) (nb := nb) (kd := kd) (sk := sk) (hm := hm) (ch := ch) (h := h) hf t A B hA hB hAB
    have m : mxA N nb kd sk hm 1 f h t A ≤ mxA N nb kd sk hm 1 f h t B := mx_mono hf A B hA hB hAB
    unfold woT mnZ
    split
    · split <;> split <;> omega
    · exact ih
theorem woF_mn {N nb : Nat} {kd : Nat → Int32} {sk hm : Nat → Nat} {ch : Nat → Nat → Bool} : ∀ n, Mnt N (woF N nb kd sk hm ch n)
  | 0 => fun _ _ _ _ _ => Int.le_refl _
  | n + 1 => woT_mn (woF_mn n) 4
/-- the class -/
theorem t79 {ω : Om} {N nb : Nat} {kd : Nat → Int32} {sk hm : Nat → Nat} {ch : Nat → Nat → Bool} (hp : HP N nb kd sk hm) (hc : HC N nb kd sk hm ω) (hch : ∀ h, h < 6 → ∀ t, t < 4 → (¬ ω.1 8 (h * 4 + t) ≤ 0 ↔ ch h t = true)) {H W : Nat} (hH : H ≤ 6) (hW : W < 2 ^ N) (eH : ω.1 16 0 = nI H) (eW : ω.1 16 1 = nI W) {Q : Int32 → Om → Prop} (q : ∀ ω', Fr [20, 21, 22, 24] [23, 28] ω ω' → Q (nI (-woF N nb kd sk hm ch (6 - H) (dif (2 ^ N - 1) W)).toNat) ω') : me_CtI 79 [.ref 0] ω Q := by
  obtain ⟨hN, hnb, hk, hsk, hhm⟩ := id hp
  have h7 := pow7 hN
  have hp2 := p2_pos N
  have bd := woF_bd (N := N) (nb := nb) (kd := kd) (sk := sk) (ch := ch) hhm
  have bf : ∀ n, n ≤ 6 → Bf N (woF N nb kd sk hm ch n) := fun n hn B hB => by
    have := bd n B hB
    omega
  have k33 : ∀ h, h < 6 → H ≤ h → (∀ ω', Fr [20, 21, 22, 24] [23, 28] ω ω' → Rw 28 ω' h N (woF N nb kd sk hm ch (6 - h)) → me_W 79 11 [some (.ref 0), some (.int (nI h + (-1 : Int32))), none] [] ω' (fun r ω' => ∃ v : Int32, r = some (.int v) ∧ Q v ω')) → ∀ n t ω', t + n = 4 → Fr [20, 21, 22, 24] [23, 28] ω ω' → Rw 28 ω' (h + 1) N (woF N nb kd sk hm ch (6 - (h + 1))) → Rw 28 ω' h N (woT N nb kd sk hm (woF N nb kd sk hm ch (6 - (h + 1))) ch h t) → me_W 79 33 [some (.ref 0), some (.int (nI h)), some (.int (nI t))] [] ω' (fun r ω' => ∃ v : Int32, r = some (.int v) ∧ Q v ω') := by
    intro h hh hHh next n
    have ek : woF N nb kd sk hm ch (6 - h) = woT N nb kd sk hm (woF N nb kd sk hm ch (6 - (h + 1))) ch h 4 := by
      rw [show 6 - h = (6 - (h + 1)) + 1 by omega]
      funext A
      show woT N nb kd sk hm (woF N nb kd sk hm ch (6 - (h + 1))) ch (5 - (6 - (h + 1))) 4 A = _
      rw [show 5 - (6 - (h + 1)) = h by omega]
    induction n with
    | zero =>
      intro t ω' ht hF r1 r0
      obtain rfl : t = 4 := by omega
      refine vl_79_33 ω' _ _ (br_t (by decide) (next ω' hF ?_))
      rw [ek]
      exact r0
    | succ n ih =>
      intro t ω' ht hF r1 r0
      refine vl_79_33 ω' _ _ (br_f (nI_ge (b := 4) (by omega) (by decide)) (t2 (fun a b ha hb ea eb => ?_) (fun z => absurd ⟨vp_in_nI hh (by decide), vp_in_nI (by omega) (by decide)⟩ z)))
      obtain rfl : h = a := (nI_eq (by omega) (by omega)).mp ea
      obtain rfl : t = b := (nI_eq (by omega) (by omega)).mp eb
      rw [hF.1 8 rfl, nI_1]
      have hct := hch h hh t (by omega)
      have hw : ∀ A, woT N nb kd sk hm (woF N nb kd sk hm ch (6 - (h + 1))) ch h (t + 1) A = if ch h t = true then mnZ (woT N nb kd sk hm (woF N nb kd sk hm ch (6 - (h + 1))) ch h t A) (mxA N nb kd sk hm 1 (woF N nb kd sk hm ch (6 - (h + 1))) h t A - hm t) else woT N nb kd sk hm (woF N nb kd sk hm ch (6 - (h + 1))) ch h t A := fun A => rfl
      refine ⟨fun c => ih (t + 1) ω' (by omega) hF r1 (fun B hB => ?_), fun c => ?_⟩
      · rw [hw, if_neg (fun z => (hct.mpr z) c)]
        exact r0 B hB
      · have b1 : Bf N (woT N nb kd sk hm (woF N nb kd sk hm ch (6 - (h + 1))) ch h t) := fun B hB => by
          have := woT_bd (N := N) (nb := nb) (kd := kd) (sk := sk) (ch := ch) (h := h) hhm (bd (6 - (h + 1))) t (by omega) B hB
          omega
        have b2 : Bf N (mxA N nb kd sk hm 1 (woF N nb kd sk hm ch (6 - (h + 1))) h t) := fun B hB => by
          have := mxA_bd (N := N) (nb := nb) (kd := kd) (sk := sk) (hm := hm) (u := 1) (H := h) (t := t) (by decide) (hhm t (by omega)) hB (bd (6 - (h + 1)))
          omega
        refine t114 hp (hc.fr hF ⟨rfl, rfl, rfl, rfl⟩) hh (by omega) r1 r0 (bf _ (by omega)) b1 b2 (woF_mn _) (fun ω2 hF2 r2 r3 => ih (t + 1) ω2 (by omega) (hF.trans hF2) r3 (fun B hB => ?_))
        rw [hw, if_pos (hct.mp c)]
        exact r2 B hB
  have k11 : ∀ n k ω', H + n = k → k ≤ 6 → Fr [20, 21, 22, 24] [23, 28] ω ω' → Rw 28 ω' k N (woF N nb kd sk hm ch (6 - k)) → me_W 79 11 [some (.ref 0), some (.int (nI k + (-1 : Int32))), none] [] ω' (fun r ω' => ∃ v : Int32, r = some (.int v) ∧ Q v ω') := by
    intro n
    induction n with
    | zero =>
      intro k ω' hn hk6 hF hr
      obtain rfl : H = k := by omega
      have e1 : ω'.1 16 0 = nI H := by rw [hF.1 16 rfl]; exact eH
      have e2 : ω'.1 16 1 = nI W := by rw [hF.1 16 rfl]; exact eW
      have e3 : ω'.1 11 4 = nI N := by rw [hF.1 11 rfl]; exact hc.1
      have hd : dif (2 ^ N - 1) W < 2 ^ N := dif_lt (E_lt N)
      have b := bd (6 - H) _ hd
      refine vl_79_11 ω' _ ?_
      rw [e1]
      refine br_t (m1_lt H (by omega)) (t104 hN e3 e2 hW (t58w hH (by omega) ⟨_, rfl, ?_⟩))
      rw [hr _ hd, jI_neg]
      have ez : -woF N nb kd sk hm ch (6 - H) (dif (2 ^ N - 1) W) = ((-woF N nb kd sk hm ch (6 - H) (dif (2 ^ N - 1) W)).toNat : Int) := by omega
      rw [ez, jI_N]
      exact q ω' hF
    | succ n ih =>
      intro k ω' hn hk6 hF hr
      obtain ⟨h, rfl⟩ : ∃ h, k = h + 1 := ⟨k - 1, by omega⟩
      have e1 : ω'.1 16 0 = nI H := by rw [hF.1 16 rfl]; exact eH
      refine vl_79_11 ω' _ ?_
      rw [e1, pk_m1]
      refine br_f (nI_nlt (by omega) (by omega)) (br_f (nI_pos (by omega)) (t112 hN (by rw [hF.1 11 rfl]; exact hc.1) (by omega) hr (fun ω2 hF2 r0 r1 => ?_)))
      exact k33 h (by omega) (by omega) (fun ω3 hF3 hr3 => ih h ω3 (by omega) (by omega) hF3 hr3) 4 0 ω2 rfl (hF.trans (hF2.sub (by decide) (by decide))) r1 r0
  refine vc_79 ω (t61w (h := 6) (by decide) (fun ω1 hF1 z1 _ => ?_))
  rw [m1_5]
  refine k11 (6 - H) 6 ω1 (by omega) (by omega) (hF1.sub (by decide) (by decide)) (fun B hB => ?_)
  rw [z1 B (by omega)]
  rfl
