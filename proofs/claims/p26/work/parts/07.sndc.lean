/-! rows of arrays, statics, returns, calls -/
theorem me_wd_in {j : Nat} {w : Cond} (h : me_wd j w = true) : w ∈ me_GT := by
  unfold me_wd at h
  simp only [Bool.and_eq_true, decide_eq_true_eq] at h
  exact List.mem_filter.mpr ⟨List.mem_of_getElem? h.1, h.2⟩
theorem me_ce_ai {cI cJ : ClassId} {ad : Nat → Nat} {fi : Nat → Int32} {fl : Nat → Int64} {N : Nat} {t : List Nat} : me_ce cI cJ ad fi fl (100, N :: t) = .inl (cI, N, .inl fi) := rfl
theorem me_ce_aj {cI cJ : ClassId} {ad : Nat → Nat} {fi : Nat → Int32} {fl : Nat → Int64} {N : Nat} {t : List Nat} : me_ce cI cJ ad fi fl (101, N :: t) = .inl (cJ, N, .inr (.inl fl)) := rfl
section SNC
variable {y pc : Nat} {L : List (Option Value)} {st : List Value} {ω : Om} {P : Option Value → Om → Prop} {K : me_K}
theorem me_x_iaload (hK : ∀ pc L st ω, K pc L st ω → me_W y pc L st ω P) (hd : decode (me_mb y) pc = .ok (.iaload, 1)) (h : me_ir st fun i k r => me_ial i k ω fun v => K (pc + 1) L (.int v :: r) ω) : me_W y pc L st ω P := by
  unfold me_ir at h
  split at h
  next i k r =>
    intro p l e s m args below meth c G cI cJ ad H locs ls hAt hP hS hl
    obtain ⟨hx, hb, hr, hml, hown, hts, hlk, hE⟩ := id hAt
    unfold me_ial at h
    split at h
    next h47 =>
      obtain rfl := eq_of_beq h47
      exact va_ti hx hb hE.2.2.1.2.2.2 hS h.1 rfl hd (hK _ _ _ _ h.2 p l e s m args below meth c G cI cJ ad H locs ls hAt hP hS hl)
    next =>
      split at h
      next N t hk =>
        have hat := me_cc_at (cI := cI) (cJ := cJ) (ad := ad) (ω := ω) hk
        rw [me_ce_ai] at hat
        exact va_iald hx hb hE.1 hP k 0 hat rfl h.1 hd (hK _ _ _ _ h.2 p l e s m args below meth c G cI cJ ad H locs ls hAt hP hS hl)
      next => exact h.elim
  next => exact h.elim
theorem me_x_laload (hK : ∀ pc L st ω, K pc L st ω → me_W y pc L st ω P) (hd : decode (me_mb y) pc = .ok (.laload, 1)) (h : me_ir st fun i k r => me_lal i k ω fun v => K (pc + 1) L (.long v :: r) ω) : me_W y pc L st ω P := by
  unfold me_ir at h
  split at h
  next i k r =>
    intro p l e s m args below meth c G cI cJ ad H locs ls hAt hP hS hl
    obtain ⟨hx, hb, hr, hml, hown, hts, hlk, hE⟩ := id hAt
    unfold me_lal at h
    split at h
    next h47 =>
      obtain rfl := eq_of_beq h47
      exact va_tl hx hb hE.2.2.1.2.1 hS h.1 rfl hd (hK _ _ _ _ h.2 p l e s m args below meth c G cI cJ ad H locs ls hAt hP hS hl)
    next =>
      split at h
      next N t hk =>
        have hat := me_cc_at (cI := cI) (cJ := cJ) (ad := ad) (ω := ω) hk
        rw [me_ce_aj] at hat
        exact va_lald hx hb hE.1 hP k 1 hat rfl h.1 hd (hK _ _ _ _ h.2 p l e s m args below meth c G cI cJ ad H locs ls hAt hP hS hl)
      next => exact h.elim
  next => exact h.elim
theorem me_x_iastore (hK : ∀ pc L st ω, K pc L st ω → me_W y pc L st ω P) (hd : decode (me_mb y) pc = .ok (.iastore, 1)) (h : me_ias st ω fun r ω' => K (pc + 1) L r ω') : me_W y pc L st ω P := by
  unfold me_ias at h
  split at h
  next x i k r =>
    split at h
    next N t hk =>
      intro p l e s m args below meth c G cI cJ ad H locs ls hAt hP hS hl
      obtain ⟨hx, hb, hr, hml, hown, hts, hlk, hE⟩ := id hAt
      have hat := me_cc_at (cI := cI) (cJ := cJ) (ad := ad) (ω := ω) hk
      rw [me_ce_ai] at hat
      refine va_iast hx hb hE.1 hP (me_D hE.2.1) hS k 0 hat rfl h.1 hd (fun H1 locs1 hP1 hD1 hS1 => ?_)
      refine hK _ _ _ _ h.2 p l e s m args below meth c G cI cJ ad H1 locs1 ls hAt ?_ hS1 hl
      have e1 : (ui ω k i.toNatClampNeg x).1 k = upd (ω.1 k) i.toNatClampNeg x := if_pos rfl
      rw [← me_cc_set (ω := ω) (ω' := ui ω k i.toNatClampNeg x) (e := .inl (cI, N, .inl (upd (ω.1 k) i.toNatClampNeg x))) hk (fun a ha => if_neg ha) (fun _ _ => rfl) (by rw [me_ce_ai, e1])]
      exact hP1
    next => exact h.elim
  next => exact h.elim
theorem me_x_lastore (hK : ∀ pc L st ω, K pc L st ω → me_W y pc L st ω P) (hd : decode (me_mb y) pc = .ok (.lastore, 1)) (h : me_las st ω fun r ω' => K (pc + 1) L r ω') : me_W y pc L st ω P := by
  unfold me_las at h
  split at h
  next x i k r =>
    split at h
    next N t hk =>
      intro p l e s m args below meth c G cI cJ ad H locs ls hAt hP hS hl
      obtain ⟨hx, hb, hr, hml, hown, hts, hlk, hE⟩ := id hAt
      have hat := me_cc_at (cI := cI) (cJ := cJ) (ad := ad) (ω := ω) hk
      rw [me_ce_aj] at hat
      refine va_last hx hb hE.1 hP (me_D hE.2.1) hS k 1 hat rfl h.1 hd (fun H1 locs1 hP1 hD1 hS1 => ?_)
      refine hK _ _ _ _ h.2 p l e s m args below meth c G cI cJ ad H1 locs1 ls hAt ?_ hS1 hl
      have e1 : (ul ω k i.toNatClampNeg x).2 k = vp_updL (ω.2 k) i.toNatClampNeg x := if_pos rfl
      rw [← me_cc_set (ω := ω) (ω' := ul ω k i.toNatClampNeg x) (e := .inl (cJ, N, .inr (.inl (vp_updL (ω.2 k) i.toNatClampNeg x)))) hk (fun _ _ => rfl) (fun a ha => if_neg ha) (by rw [me_ce_aj, e1])]
      exact hP1
    next => exact h.elim
  next => exact h.elim
theorem me_x_getstatic (hK : ∀ pc L st ω, K pc L st ω → me_W y pc L st ω P) {i a : Nat} (hd : decode (me_mb y) pc = .ok (.getstatic i, 3)) (hw : (a = 46 ∧ Cond.fieldLink (me_mn y).cls i "WokenOnce" "POWERS_OF_TEN" "[J" ∈ me_GT) ∨ (a = 47 ∧ Cond.fieldLink (me_mn y).cls i "WokenOnce" "POWERS_OF_FIVE" "[I" ∈ me_GT)) (h : K (pc + 3) L (.ref a :: st) ω) : me_W y pc L st ω P := by
  intro p l e s m args below meth c G cI cJ ad H locs ls hAt hP hS hl
  obtain ⟨hx, hb, hr, hml, hown, hts, hlk, hE⟩ := id hAt
  rcases hw with ⟨rfl, hw⟩ | ⟨rfl, hw⟩
  · exact va_gets hx hb hE.2.2.1.1 hS hown (hts _ (List.mem_cons_of_mem _ hw)) (fun _ h9 => h9) hd (hK _ _ _ _ h p l e s m args below meth c G cI cJ ad H locs ls hAt hP hS hl)
  · exact va_gets hx hb hE.2.2.1.2.2.1 hS hown (hts _ (List.mem_cons_of_mem _ hw)) (fun _ h9 => h9) hd (hK _ _ _ _ h p l e s m args below meth c G cI cJ ad H locs ls hAt hP hS hl)
theorem me_x_arraylength (hK : ∀ pc L st ω, K pc L st ω → me_W y pc L st ω P) (hd : decode (me_mb y) pc = .ok (.arraylength, 1)) (h : me_r1 st fun i r => if i == 46 || i == 47 then K (pc + 1) L (.int 7 :: r) ω else False) : me_W y pc L st ω P := by
  unfold me_r1 at h
  split at h
  next i r =>
    intro p l e s m args below meth c G cI cJ ad H locs ls hAt hP hS hl
    obtain ⟨hx, hb, hr, hml, hown, hts, hlk, hE⟩ := id hAt
    split at h
    next hi =>
      rw [Bool.or_eq_true] at hi
      rcases hi with hi | hi
      · obtain rfl := eq_of_beq hi
        exact va_tlen hx hb hE.2.2.1.2.1 hS rfl hd (hK _ _ _ _ h p l e s m args below meth c G cI cJ ad H locs ls hAt hP hS hl)
      · obtain rfl := eq_of_beq hi
        exact va_tlen hx hb hE.2.2.1.2.2.2 hS rfl hd (hK _ _ _ _ h p l e s m args below meth c G cI cJ ad H locs ls hAt hP hS hl)
    next => exact h.elim
  next => exact h.elim
theorem me_end {G : va_G} {cI cJ : ClassId} {ad : Nat → Nat} {s t : State} {H : Heap} {locs : List Loc} {r : Option Value} {args : Array Value} (hP : va_P G vwCl (me_cc cI cJ ad ω) H) (hS : va_S (me_A ad) s.heap H locs) (h : P r ω) (ht : t.heap = H) : me_Post G cI cJ ad P args s (.returned r) t :=
  ⟨⟨r, ω, rfl, h, by rw [ht]; exact hP⟩, hS.F ht⟩
theorem me_x_ireturn {b : Nat} (hd : decode (me_mb y) pc = .ok (.ireturn, 1)) (hb0 : (b = 1 ∧ me_mr y = some .boolean) ∨ (b = 0 ∧ me_mr y = some .int)) (h : me_ri st b fun r => P r ω) : me_W y pc L st ω P := by
  unfold me_ri at h
  split at h
  next v =>
    intro p l e s m args below meth c G cI cJ ad H locs ls hAt hP hS hl
    obtain ⟨hx, hb, hr, hml, hown, hts, hlk, hE⟩ := id hAt
    rcases hb0 with ⟨rfl, hm⟩ | ⟨rfl, hm⟩
    · rw [hm] at hr
      have h : (v = 0 ∨ v = 1) ∧ P (some (.int v)) ω := h
      exact W.zret hx hb hr (by rcases h.1 with rfl | rfl <;> decide +kernel) (fun t ht hW => me_end hP hS h.2 ht) hS.2.2 hd hlk
    · rw [hm] at hr
      exact W.iret hx hb hr (fun t ht hW => me_end hP hS h ht) hS.2.2 hd hlk
  next => exact h.elim
theorem me_x_lreturn (hd : decode (me_mb y) pc = .ok (.lreturn, 1)) (hm : me_mr y = some .long) (h : me_rj st fun r => P r ω) : me_W y pc L st ω P := by
  unfold me_rj at h
  split at h
  next v =>
    intro p l e s m args below meth c G cI cJ ad H locs ls hAt hP hS hl
    obtain ⟨hx, hb, hr, hml, hown, hts, hlk, hE⟩ := id hAt
    rw [hm] at hr
    exact W.lret hx hb hr (fun t ht hW => me_end hP hS h ht) hS.2.2 hd hlk
  next => exact h.elim
theorem me_x_return (hd : decode (me_mb y) pc = .ok (.return_, 1)) (hm : me_mr y = none) (h : me_rv st fun r => P r ω) : me_W y pc L st ω P := by
  unfold me_rv at h
  split at h
  next =>
    intro p l e s m args below meth c G cI cJ ad H locs ls hAt hP hS hl
    obtain ⟨hx, hb, hr, hml, hown, hts, hlk, hE⟩ := id hAt
    rw [hm] at hr
    exact W.vret hx hb hr (fun t ht hW => me_end hP hS h ht) hS.2.2 hd hlk
  next => exact h.elim
/-- arraycopy -/
theorem me_x_copy (hK : ∀ pc L st ω, K pc L st ω → me_W y pc L st ω P) {i : Nat} (hd : decode (me_mb y) pc = .ok (.invokestatic i, 3)) (hw : Cond.methodLink (me_mn y).cls i arraycopyName ∈ me_GT) (h1 : 1 ≤ (me_mf y).1) (h26 : 26 ≤ (me_mf y).2)
    (hn : Cond.native arraycopyName ∈ me_GT) (hs : Cond.static arraycopyName ∈ me_GT) (hi : Cond.initialized "java/lang/System" ∈ me_GT) (h : me_cp st ω pc L K) : me_W y pc L st ω P := by
  unfold me_cp at h
  split at h
  next n dp a1 sp a0 r =>
    split at h
    next N0 t0 N1 t1 hk0 hk1 =>
      split at h
      next h8 =>
        intro p l e s m args below meth c G cI cJ ad H locs ls hAt hP hS hl
        obtain ⟨hx, hb, hr, hml, hown, hts, hlk, hE⟩ := id hAt
        have hat0 := me_cc_at (cI := cI) (cJ := cJ) (ad := ad) (ω := ω) hk0
        rw [me_ce_ai] at hat0
        have hat1 := me_cc_at (cI := cI) (cJ := cJ) (ad := ad) (ω := ω) hk1
        rw [me_ce_ai] at hat1
        obtain ⟨⟨c1, c2, c3, c4, c5⟩, h⟩ := h
        have h8 : (r.map fun v => v.category).sum ≤ 8 := Nat.le_of_ble_eq_true h8
        refine va_copyi hx hb (hml.trans hl.1.symm) hown (hts _ (List.mem_cons_of_mem _ hw)) (hts _ (List.mem_cons_of_mem _ hn)) (hts _ (List.mem_cons_of_mem _ hs)) (hts _ (List.mem_cons_of_mem _ hi)) hE.1 hP (me_D hE.2.1) hS a0 a1 0 0 hat0 hat1 rfl rfl rfl c1 c2 c3 c4 c5 (fun _ _ => rfl) h1 ?_ hd (fun H1 locs1 hP1 hD1 hS1 => ?_)
        · rw [me_rn_sum]
          show _ + (nativeFrameWords "java/lang/System" "arraycopy" 5 + 11) ≤ (me_mf y).2
          rw [show nativeFrameWords "java/lang/System" "arraycopy" 5 = 7 by decide +kernel]
          omega
        · refine hK _ _ _ _ h p l e s m args below meth c G cI cJ ad H1 locs1 ls hAt ?_ hS1 hl
          have e1 : (ur ω a1 (va_cpy (ω.1 a0) (ω.1 a1) sp.toNatClampNeg dp.toNatClampNeg n.toNatClampNeg)).1 a1 = va_cpy (ω.1 a0) (ω.1 a1) sp.toNatClampNeg dp.toNatClampNeg n.toNatClampNeg := if_pos rfl
          rw [← me_cc_set (ω := ω) (ω' := ur ω a1 (va_cpy (ω.1 a0) (ω.1 a1) sp.toNatClampNeg dp.toNatClampNeg n.toNatClampNeg)) (e := .inl (cI, N1, .inl (va_cpy (ω.1 a0) (ω.1 a1) sp.toNatClampNeg dp.toNatClampNeg n.toNatClampNeg))) hk1 (fun a ha => if_neg ha) (fun _ _ => rfl) (by rw [me_ce_ai, e1])]
          exact hP1
      next => exact h.elim
    next => exact h.elim
  next => exact h.elim
theorem me_x_min (hK : ∀ pc L st ω, K pc L st ω → me_W y pc L st ω P) {i : Nat} (hd : decode (me_mb y) pc = .ok (.invokestatic i, 3)) (hw : Cond.methodLink (me_mn y).cls i Lib.Math.min.name ∈ me_GT) (h1 : 1 ≤ (me_mf y).1) (h2 : 21 ≤ (me_mf y).2) (w1 : Cond.static Lib.Math.min.name ∈ me_GT) (w2 : Cond.initialized "java/lang/Math" ∈ me_GT) (w3 : Cond.code Lib.Math.min.name Lib.Math.min.code 2 (some .int) ∈ me_GT)
    (h : me_i2 st (fun a b r => if me_cat8 r then K (pc + 3) L (.int (if b < a then b else a) :: r) ω else False)) : me_W y pc L st ω P := by
  unfold me_i2 at h
  split at h
  next b a r =>
    split at h
    next h8 =>
      have h8 : (r.map fun v => v.category).sum ≤ 8 := Nat.le_of_ble_eq_true h8
      intro p l e s m args below meth c G cI cJ ad H locs ls hAt hP hS hl
      obtain ⟨hx, hb, hr, hml, hown, hts, hlk, hE⟩ := id hAt
      refine va_mmin hx hb (hml.trans hl.1.symm) hown (hts _ (List.mem_cons_of_mem _ hw)) (hts _ (List.mem_cons_of_mem _ w1)) (hts _ (List.mem_cons_of_mem _ w2)) (hts _ (List.mem_cons_of_mem _ w3)) h1 ?_ (Nat.zero_le _) (Nat.zero_le _) hd (hK _ _ _ _ h p l e s m args below meth c G cI cJ ad H locs ls hAt hP hS hl)
      rw [me_rn_sum]
      show _ ≤ (me_mf y).2
      omega
    next => exact h.elim
  next => exact h.elim
theorem me_x_minl (hK : ∀ pc L st ω, K pc L st ω → me_W y pc L st ω P) {i : Nat} (hd : decode (me_mb y) pc = .ok (.invokestatic i, 3)) (hw : Cond.methodLink (me_mn y).cls i Lib.MathLoose.min_long.x ∈ me_GT) (h1 : 1 ≤ (me_mf y).1) (h2 : 23 ≤ (me_mf y).2) (w1 : Cond.static Lib.MathLoose.min_long.x ∈ me_GT) (w2 : Cond.initialized "java/lang/Math" ∈ me_GT) (w3 : Cond.code Lib.MathLoose.min_long.x Lib.MathLoose.min_long.code 4 (some .long) ∈ me_GT)
    (h : me_j2 st (fun a b r => if me_cat8 r then K (pc + 3) L (.long (if b < a then b else a) :: r) ω else False)) : me_W y pc L st ω P := by
  unfold me_j2 at h
  split at h
  next b a r =>
    split at h
    next h8 =>
      have h8 : (r.map fun v => v.category).sum ≤ 8 := Nat.le_of_ble_eq_true h8
      intro p l e s m args below meth c G cI cJ ad H locs ls hAt hP hS hl
      obtain ⟨hx, hb, hr, hml, hown, hts, hlk, hE⟩ := id hAt
      refine va_mmin_long hx hb (hml.trans hl.1.symm) hown (hts _ (List.mem_cons_of_mem _ hw)) (hts _ (List.mem_cons_of_mem _ w1)) (hts _ (List.mem_cons_of_mem _ w2)) (hts _ (List.mem_cons_of_mem _ w3)) h1 ?_ (Nat.zero_le _) (Nat.zero_le _) hd (hK _ _ _ _ h p l e s m args below meth c G cI cJ ad H locs ls hAt hP hS hl)
      rw [me_rn_sum]
      show _ ≤ (me_mf y).2
      omega
    next => exact h.elim
  next => exact h.elim
end SNC
