/-! KNOWN -/
noncomputable def knF (N nb : Nat) (kd : Nat → Int32) (sk hm : Nat → Nat) (fig : Nat → Nat) : Nat → Nat → Int
  | 0, _ => 0
  | n + 1, A => if fig (5 - n) = 0 then knF N nb kd sk hm fig n A else mxA N nb kd sk hm 1 (knF N nb kd sk hm fig n) (5 - n) (fig (5 - n) - 1) A
theorem knF_bd {N nb : Nat} {kd : Nat → Int32} {sk hm fig : Nat → Nat} (hhm : ∀ t, t < 4 → hm t < 100) (hfig : ∀ h, fig h < 5) : ∀ (n A : Nat), A < 2 ^ N → 0 ≤ knF N nb kd sk hm fig n A ∧ knF N nb kd sk hm fig n A ≤ 100 * n
  | 0, A, _ => ⟨Int.le_refl _, Int.le_refl _⟩
  | n + 1, A, hA => by
    have ih := knF_bd (N := N) (nb := nb) (kd := kd) (sk := sk) hhm hfig n
    unfold knF
    have hf := hfig (5 - n)
    by_cases c : fig (5 - n) = 0
    · rw [if_pos c]
      have := ih A hA
      omega
    · rw [if_neg c]
      have := mxA_bd (N := N) (nb := nb) (kd := kd) (sk := sk) (hm := hm) (u := 1) (H := 5 - n) (t := fig (5 - n) - 1) (by decide) (hhm _ (by omega)) hA ih
      omega
theorem knF_mn {N nb : Nat} {kd : Nat → Int32} {sk hm fig : Nat → Nat} : ∀ n, Mnt N (knF N nb kd sk hm fig n)
  | 0 => fun _ _ _ _ _ => Int.le_refl _
  | n + 1 => by
    have ih := knF_mn (N := N) (nb := nb) (kd := kd) (sk := sk) (hm := hm) (fig := fig) n
    by_cases c : fig (5 - n) = 0
    · intro A B hA hB hAB
      unfold knF
      rw [if_pos c, if_pos c]
      exact ih A B hA hB hAB
    · intro A B hA hB hAB
      unfold knF
      rw [if_neg c, if_neg c]
      exact mx_mono ih A B hA hB hAB
theorem m1_lt : ∀ H, H < 7 → nI H + (-1 : Int32) < nI H := by decide
theorem m1_5 : (5 : Int32) = nI 6 + (-1 : Int32) := by decide
/-- the class's rows -/
theorem t80 {ω : Om} {N nb : Nat} {kd : Nat → Int32} {sk hm : Nat → Nat} (hp : HP N nb kd sk hm) (hc : HC N nb kd sk hm ω) {H W c : Nat} (hH : H ≤ 6) (hW : W < 2 ^ N) (eH : ω.1 16 0 = nI H) (eW : ω.1 16 1 = nI W) (hcl : c < 5 ^ (6 - H)) {Q : Int32 → Om → Prop} (q : ∀ ω', Fr [20, 21, 22, 24] [23, 28] ω ω' → Q (nI (knF N nb kd sk hm (fun h => c / 5 ^ (h - H) % 5) (6 - H) (dif (2 ^ N - 1) W)).toNat) ω') : me_CtI 80 [.ref 0, .int (nI c)] ω Q := by
  obtain ⟨hN, hnb, hk, hsk, hhm⟩ := id hp
  have h7 := pow7 hN
  have hp2 := p2_pos N
  obtain ⟨fig, efig⟩ : ∃ fig : Nat → Nat, fig = fun h => c / 5 ^ (h - H) % 5 := ⟨_, rfl⟩
  rw [← efig] at q
  have hfig : ∀ h, fig h < 5 := fun h => by rw [efig]; exact Nat.mod_lt _ (by decide)
  have fl := five_lt (6 - H) (by omega)
  have bd := knF_bd (N := N) (nb := nb) (kd := kd) (sk := sk) hhm hfig
  have bf : ∀ n, n ≤ 6 → Bf N (knF N nb kd sk hm fig n) := fun n hn B hB => by
    have := bd n B hB
    omega
  have key : ∀ n k ω', H + n = k → k ≤ 6 → Fr [20, 21, 22, 24] [23, 28] ω ω' → Rw 28 ω' k N (knF N nb kd sk hm fig (6 - k)) → me_W 80 35 [some (.ref 0), some (.int (nI c)), some (.int (nI k + (-1 : Int32))), none] [] ω' (fun r ω' => ∃ v : Int32, r = some (.int v) ∧ Q v ω') := by
    intro n
    induction n with
    | zero =>
      intro k ω' hn hk6 hF hr
      obtain rfl : H = k := by omega
      have e1 : ω'.1 16 0 = nI H := by rw [hF.1 16 rfl]; exact eH
      have e2 : ω'.1 16 1 = nI W := by rw [hF.1 16 rfl]; exact eW
      have e3 : ω'.1 11 4 = nI N := by rw [hF.1 11 rfl]; exact hc.1
      have hd : dif (2 ^ N - 1) W < 2 ^ N := dif_lt (E_lt N)
      have b := bd (6 - H) _ hd
      refine vl_80_35 ω' _ _ ?_
      rw [e1]
      refine br_t (m1_lt H (by omega)) (t104 hN e3 e2 hW (t58w hH (by omega) ⟨_, rfl, ?_⟩))
      rw [hr _ hd]
      have ez : knF N nb kd sk hm fig (6 - H) (dif (2 ^ N - 1) W) = ((knF N nb kd sk hm fig (6 - H) (dif (2 ^ N - 1) W)).toNat : Int) := by omega
      rw [ez, jI_N]
      exact q ω' hF
    | succ n ih =>
      intro k ω' hn hk6 hF hr
      obtain ⟨h, rfl⟩ : ∃ h, k = h + 1 := ⟨k - 1, by omega⟩
      have e1 : ω'.1 16 0 = nI H := by rw [hF.1 16 rfl]; exact eH
      have hc' : HC N nb kd sk hm ω' := hc.fr hF ⟨rfl, rfl, rfl, rfl⟩
      have ek : ∀ A, knF N nb kd sk hm fig (6 - h) A = if fig h = 0 then knF N nb kd sk hm fig (6 - (h + 1)) A else mxA N nb kd sk hm 1 (knF N nb kd sk hm fig (6 - (h + 1))) h (fig h - 1) A := by
        intro A
        rw [show 6 - h = (6 - (h + 1)) + 1 by omega]
        show (if fig (5 - (6 - (h + 1))) = 0 then _ else _) = _
        rw [show 5 - (6 - (h + 1)) = h by omega]
      have hcl2 : c < 2 ^ 31 := by omega
      refine vl_80_35 ω' _ _ ?_
      rw [e1, pk_m1]
      refine br_f (nI_nlt (by omega) (by omega)) (br_f (nI_pos (by omega)) ?_)
      rw [pk_sub (by omega)]
      refine t97 hcl2 (by omega) (t112 hN hc'.1 (by omega) hr (fun ω2 hF2 r0 r1 => ?_))
      have hF2' : Fr [20, 21, 22, 24] [23, 28] ω ω2 := hF.trans (hF2.sub (by decide) (by decide))
      have hc2 : HC N nb kd sk hm ω2 := hc.fr hF2' ⟨rfl, rfl, rfl, rfl⟩
      have ef : c / 5 ^ (h - H) % 5 = fig h := by rw [efig]
      rw [ef]
      have hfh := hfig h
      refine ⟨fun z => ih h ω2 (by omega) (by omega) hF2' ?_, fun z => ?_⟩
      · have z' : fig h = 0 := by
          have := (nI_leI (b := 0) (by omega) (by decide)).mp z
          omega
        intro B hB
        rw [r0 B hB, ek B, if_pos z']
      · have z' : ¬ fig h = 0 := fun y => z (by rw [y]; decide)
        rw [show (1 : Int32) = nI 1 from rfl, pk_sub (by omega)]
        refine t113 hp hc2 (by omega) (by omega) r1 (bf _ (by omega)) (knF_mn _) (fun ω3 hF3 r2 r3 => ih h ω3 (by omega) (by omega) (hF2'.trans hF3) ?_)
        intro B hB
        rw [r2 B hB, ek B, if_neg z']
  refine vc_80 ω (nI c) (br_f (nI_pos (by omega)) ?_)
  rw [eH, show (6 : Int32) = nI 6 from rfl, pk_sub hH]
  refine t96 (by omega) (br_t (nI_lt hcl fl.2) (t61w (h := 6) (by decide) (fun ω1 hF1 z1 _ => ?_)))
  rw [m1_5]
  refine key (6 - H) 6 ω1 (by omega) (by omega) (hF1.sub (by decide) (by decide)) (fun B hB => ?_)
  rw [z1 B (by omega)]
  rfl
theorem t80o {ω : Om} {H : Nat} (hH : H ≤ 6) (eH : ω.1 16 0 = nI H) {a : Int32} (ha : ¬ vp_in a (5 ^ (6 - H))) {Q : Int32 → Om → Prop} (q : Q (-102) ω) : me_CtI 80 [.ref 0, .int a] ω Q := by
  have fl := five_lt (6 - H) (by omega)
  refine vc_80 ω a ⟨fun _ => ⟨_, rfl, q⟩, fun c => ?_⟩
  rw [eH, show (6 : Int32) = nI 6 from rfl, pk_sub hH]
  refine t96 (by omega) (br_f (fun c2 => ha ?_) ⟨_, rfl, q⟩)
  rw [vp_in_iff]
  rw [Int32.lt_iff_toInt_lt, Int32.toInt_zero] at c
  rw [Int32.lt_iff_toInt_lt, nI_toInt fl.2] at c2
  omega
