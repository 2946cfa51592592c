/-! calls -/
theorem me_gw_code (y : MethodName) (b : ByteArray) (n : Nat) (r : Option FieldType) : goodWord (.code y b n r) = true := rfl
theorem me_cm_in {z : Nat} (h0 : me_cz z) : (∀ w ∈ me_ws z, w ∈ me_GT) ∧ Cond.initialized (me_mn z).cls ∈ me_GT ∧ plainName (me_mn z).cls = true ∧ (parseMethodDescriptor (me_mn z).desc).map (fun d => d.parameters.length) = some (me_mp z) ∧ (me_mn z).cls ≠ "java/lang/invoke/MethodHandle" ∧ (me_mn z).cls ≠ "java/lang/invoke/VarHandle" := by
  obtain ⟨h1, h⟩ := h0
  unfold me_cm at h
  simp only [Bool.and_eq_true, decide_eq_true_eq] at h
  obtain ⟨⟨⟨⟨h2, h3⟩, h4⟩, h5⟩, h6⟩ := h
  refine ⟨fun w hw => ?_, me_wd_in h2, h3, h4, h5, h6⟩
  rcases List.mem_cons.mp hw with rfl | hw
  · exact List.mem_filter.mpr ⟨List.mem_of_getElem? h1, me_gw_code _ _ _ _⟩
  · exact hw
theorem me_good (y : Nat) {ws : List Cond} (h : ∀ w ∈ ws, w ∈ me_GT) : GoodIn (me_ws y) ws := fun w hw => ⟨List.mem_cons_of_mem _ (h w hw), good_of_word (List.mem_filter.mp (h w hw)).2⟩
theorem me_blind (G : va_G) (cI cJ : ClassId) (ad : Nat → Nat) (as : List Value) (ω : Om) : FrameBlind (me_Pre G cI cJ ad as ω) := by
  intro a U g mk ⟨h1, h2, h3⟩
  exact ⟨h1, h2, h3.to (Vm.Alike.refl U.vm) (fun _ _ _ => rfl) (me_Nw.same (s := U) rfl h3.2.2.2)⟩
section SND
variable {y pc : Nat} {L : List (Option Value)} {st : List Value} {ω : Om} {P : Option Value → Om → Prop} {K : me_K}
theorem me_pre {G : va_G} {cI cJ : ClassId} {ad : Nat → Nat} {s : State} {H : Heap} {locs : List Loc} {as : List Value} (hE : me_En G cI cJ ad s) (hP : va_P G vwCl (me_cc cI cJ ad ω) H) (hS : va_S (me_A ad) s.heap H locs) : ∀ U : State, U.heap = H → s.WarmedH U.vm → me_Pre G cI cJ ad as ω (as.map (me_rn ad)).toArray U := by
  intro U hU hW
  exact ⟨rfl, by rw [hU]; exact hP, hE.to hW.alike (by rw [hU]; exact hS.2.1) (hE.2.2.2.warm hW)⟩
theorem me_call {p : Program} {l : Launch} {e : Env} {s : State} {m : MethodId} {args : Array Value} {below : List Frame} {meth : Method} {c : Code} {G : va_G} {cI cJ : ClassId} {ad : Nat → Nat} {H : Heap} {locs : List Loc} {ls : Array Slot} {st0 rest : List Value} {a : Array Value} {Q : Option Value → Om → Prop} {Qf : State → Prop} {R : Room}
    (hr : va_Run p l e R s m args below meth c H locs 0 0 0 0 (F0 m pc ls st0) rest (me_Post G cI cJ ad Q a) (me_A ad)) (hS : va_S (me_A ad) s.heap H locs)
    (kk : ∀ (r : Option Value) (ω' : Om) (H1 : Heap) (locs1 : List Loc), Q r ω' → va_P G vwCl (me_cc cI cJ ad ω') H1 → va_S (me_A ad) s.heap H1 locs1 → W p l e R s m args below meth c H1 locs1 0 0 Qf (F0 m (pc + 3) ls (r.toList ++ rest))) : W p l e R s m args below meth c H locs 0 0 Qf (F0 m pc ls st0) := by
  intro T hT X
  obtain ⟨v, st₀, t, T', L, h0, X', hL, e1, e2, ⟨⟨r, ω', hv, hq, hp⟩, hz, hk⟩, stp⟩ := hr T hT X
  cases hv
  rw [h0] at hz hk
  obtain ⟨t2, a1, b1⟩ := kk v ω' T'.heap (locs ++ L) hq (by rw [e1]; exact hp)
    ⟨Nat.le_trans hS.1 (by rw [e1]; exact hz), fun q h1 h2 => by rw [e1, hk q (Nat.lt_of_lt_of_le h1 hS.1) h2]; exact hS.2.1 q h1 h2, fun q hq => by
      rcases List.mem_append.mp hq with h | h
      · exact hS.2.2 q h
      · exact hL q h⟩ T' rfl X'
  exact ⟨t2, stp t2 a1, b1⟩
/-- what a call leaves on the stack -/
theorem me_af_ct {z : Nat} {as : List Value} {r : List Value} (hK : ∀ pc L st ω, K pc L st ω → me_W y pc L st ω P) (h : me_af z as ω pc L r K) : me_Ct z as ω (fun v ω' => (∀ ad, v.toList.map (me_rn ad) = v.toList) ∧ me_W y (pc + 3) L (v.toList ++ r) ω' P) := by
  have mono : ∀ {Q Q' : Option Value → Om → Prop}, (∀ v ω', Q v ω' → Q' v ω') → me_Ct z as ω Q → me_Ct z as ω Q' := by
    intro Q Q' hq hc l G cI cJ ad p e ha hcc hk s m args below hf hap hP hX
    obtain ⟨k, o, h1, h2, h3, ⟨⟨v, ω', e1, e2, e3⟩, e4⟩, h5⟩ := hc l G cI cJ ad p e ha hcc hk s m args below hf hap hP hX
    exact ⟨k, o, h1, h2, h3, ⟨⟨v, ω', e1, hq v ω' e2, e3⟩, e4⟩, h5⟩
  unfold me_af at h
  split at h
  · exact mono (by rintro v ω' ⟨rfl, h2⟩; exact ⟨fun _ => rfl, hK _ _ _ _ h2⟩) h
  · exact mono (by rintro v ω' ⟨x, rfl, h2⟩; exact ⟨fun _ => rfl, hK _ _ _ _ h2⟩) h
  · exact mono (by rintro v ω' ⟨x, rfl, h2⟩; exact ⟨fun _ => rfl, hK _ _ _ _ h2⟩) h
theorem me_go {r : List Value} {p : Program} {l : Launch} {e : Env} {s : State} {m : MethodId} {args : Array Value} {below : List Frame} {meth : Method} {c : Code} {G : va_G} {cI cJ : ClassId} {ad : Nat → Nat} {ls : Array Slot} (hAt : me_At y p s m args meth c G cI cJ ad) (hl : me_lv ls (me_mL y) ad L) :
    ∀ (v : Option Value) (ω' : Om) (H1 : Heap) (locs1 : List Loc), ((∀ ad, v.toList.map (me_rn ad) = v.toList) ∧ me_W y (pc + 3) L (v.toList ++ r) ω' P) → va_P G vwCl (me_cc cI cJ ad ω') H1 → va_S (me_A ad) s.heap H1 locs1 → W p l e (me_rm y) s m args below meth c H1 locs1 0 0 (MQ below (me_Post G cI cJ ad P) args s 0 0 (me_A ad)) (F0 m (pc + 3) ls (v.toList ++ r.map (me_rn ad))) := by
  intro v ω' H1 locs1 ⟨h1, h2⟩ hP1 hS1
  have h := h2 p l e s m args below meth c G cI cJ ad H1 locs1 ls hAt hP1 hS1 hl
  rw [List.map_append, h1 ad] at h
  exact h
theorem me_rmk_ok {z : Nat} (h : me_rmk y z = true) : (me_rm z).frames + 1 ≤ (me_rm y).frames ∧ 8 + (me_mL z + 11) + (me_rm z).locals ≤ (me_rm y).locals := by
  unfold me_rmk at h
  simp only [Bool.and_eq_true, decide_eq_true_eq] at h
  exact h
theorem me_x_cs (hK : ∀ pc L st ω, K pc L st ω → me_W y pc L st ω P) {i z : Nat} (hd : decode (me_mb y) pc = .ok (.invokestatic i, 3)) (hz : me_cz z) (hrm : me_rmk y z = true) (hs : Cond.static (me_mn z) ∈ me_GT) (hw : Cond.methodLink (me_mn y).cls i (me_mn z) ∈ me_GT ∨ Cond.methodLinkNest (me_mn y).cls i (me_mn z) "WokenOnce" ∈ me_nw)
    (h : me_cs z (me_mp z) st ω pc L K) : me_W y pc L st ω P := by
  unfold me_cs at h
  split at h
  next hc =>
    rw [Bool.and_eq_true] at hc
    have hlen : me_mp z ≤ st.length := Nat.le_of_ble_eq_true hc.1
    have h8 : ((st.drop (me_mp z)).map fun v => v.category).sum ≤ 8 := Nat.le_of_ble_eq_true hc.2
    obtain ⟨g1, g2, g3, g4, g5, g6⟩ := me_cm_in hz
    intro p l e s m args below meth c G cI cJ ad H locs ls hAt hP hS hl
    obtain ⟨hx, hb, hr, hml, hown, hts, hlk, hE⟩ := id hAt
    have hM := me_af_ct hK h l G cI cJ ad
    have hst : st.map (me_rn ad) = ((st.take (me_mp z)).reverse.map (me_rn ad)).reverse ++ (st.drop (me_mp z)).map (me_rn ad) := by
      rw [← List.map_reverse, List.reverse_reverse, ← List.map_append, List.take_append_drop]
    have hn : ((st.take (me_mp z)).reverse.map (me_rn ad)).length = me_mp z := by simp; omega
    have h8' : (((st.drop (me_mp z)).map (me_rn ad)).map fun v => v.category).sum ≤ 8 := by rw [me_rn_sum]; exact h8
    rcases hw with hw | hw
    · refine me_call (va_runS (rest := (st.drop (me_mp z)).map (me_rn ad)) ⟨hx, hb, hml, hown, hts⟩ hM (va_cwS (me_mp z) hts (me_good y (ws := va_wsS (me_mn y).cls i (me_mn z) (me_ws z)) ?_) rfl rfl rfl ⟨g5, g6, g4⟩ (me_rmk_ok hrm)) ⟨me_blind _ _ _ _ _ _, me_pre hE hP hS⟩ rfl hn hl.1 hst (lv_room h8') hd ⟨Nat.le_refl _, Nat.le_refl _⟩) hS (me_go hAt hl)
      intro w hw'
      rcases List.mem_append.mp hw' with hw' | hw'
      · simp only [List.mem_cons, List.not_mem_nil, or_false] at hw'
        rcases hw' with rfl | rfl | rfl
        · exact hw
        · exact hs
        · exact g2
      · exact g1 w hw'
    · exact me_call (va_runSN (rest := (st.drop (me_mp z)).map (me_rn ad)) ⟨hx, hb, hml, hown, hts⟩ hM ⟨va_cnB (me_mp z) hts (me_good y g1) rfl rfl rfl (hE.2.2.2 _ hw) (hts _ (List.mem_cons_of_mem _ g2)) ⟨g5, g6, g4⟩ (me_rmk_ok hrm), hts _ (List.mem_cons_of_mem _ hs), trivial⟩ ⟨me_blind _ _ _ _ _ _, me_pre hE hP hS⟩ rfl hn hl.1 hst (lv_room h8') hd ⟨Nat.le_refl _, Nat.le_refl _⟩) hS (me_go hAt hl)
  next => exact h.elim
theorem me_recv {k ci : Nat} {q : vw_C} {G : va_G} {cI cJ : ClassId} {ad : Nat → Nat} {s : State} {H : Heap} (hE : me_En G cI cJ ad s) (hP : va_P G vwCl (me_cc cI cJ ad ω) H) (hk : me_iscl k ci = true) (hc : vwCl[ci]? = some q) : ∃ cell : Cell, H[ad k]? = some cell ∧ cell.vm.isStatics = false ∧ s.vm.findClass q.1 = some cell.cls := by
  unfold me_iscl at hk
  split at hk
  next x hx =>
    obtain ⟨c0, ks⟩ := x
    obtain rfl : c0 = ci := eq_of_beq hk
    have hlt : c0 < 12 := (List.getElem?_eq_some_iff.mp hc).1
    have hat := me_cc_at (cI := cI) (cJ := cJ) (ad := ad) (ω := ω) hx
    rw [me_ce_ob hlt] at hat
    exact va_recv hE.1 hP hc hat
  next => cases hk
theorem me_x_cv (hK : ∀ pc L st ω, K pc L st ω → me_W y pc L st ω P) {i z : Nat} (hd : decode (me_mb y) pc = .ok (.invokevirtual i, 3)) (hz : me_cz z) (hrm : me_rmk y z = true) (hv : me_vi z = true) (hw : Cond.methodLink (me_mn y).cls i (me_mn z) ∈ me_GT)
    (h : me_cv z (me_mp z) st ω pc L K) : me_W y pc L st ω P := by
  unfold me_cv at h
  split at h
  next k r hdr =>
    split at h
    next hc =>
      rw [Bool.and_eq_true, Bool.and_eq_true] at hc
      have hlen : me_mp z ≤ st.length := Nat.le_of_ble_eq_true hc.1
      have h8 : (r.map fun v => v.category).sum ≤ 8 := Nat.le_of_ble_eq_true hc.2.1
      obtain ⟨g1, g2, g3, g4, g5, g6⟩ := me_cm_in hz
      unfold me_vi at hv
      simp only [Bool.and_eq_true, decide_eq_true_eq] at hv
      obtain ⟨⟨v1, v2⟩, v3⟩ := hv
      obtain ⟨q, hq, hq1⟩ := Option.map_eq_some_iff.mp v3
      intro p l e s m args below meth c G cI cJ ad H locs ls hAt hP hS hl
      obtain ⟨hx, hb, hr, hml, hown, hts, hlk, hE⟩ := id hAt
      have hM := me_af_ct hK h l G cI cJ ad
      have hst : st.map (me_rn ad) = ((st.take (me_mp z)).reverse.map (me_rn ad)).reverse ++ .ref (ad k) :: r.map (me_rn ad) := by
        rw [← List.map_reverse, List.reverse_reverse]
        conv => lhs; rw [← List.take_append_drop (me_mp z) st, hdr, List.map_append]
        rfl
      have hn : ((st.take (me_mp z)).reverse.map (me_rn ad)).length = me_mp z := by simp; omega
      have h8' : ((r.map (me_rn ad)).map fun v => v.category).sum ≤ 8 := by rw [me_rn_sum]; exact h8
      refine me_call (va_runV (C := (me_mn z).cls) (b := ad k) (As := (st.take (me_mp z)).reverse.map (me_rn ad)) (rest := r.map (me_rn ad)) ⟨hx, hb, hml, hown, hts⟩ hM (cwV (me_mp z) hts (me_good y (ws := wsV (me_mn y).cls i (me_mn z).cls (me_mn z) (me_ws z)) ?_) rfl rfl rfl ⟨rfl, g5, g6, g4⟩ (me_rmk_ok hrm)) ⟨me_blind _ _ _ _ _ _, ?_, me_pre hE hP hS⟩ rfl hn hl.1 hst (lv_room h8') hd ⟨Nat.le_refl _, Nat.le_refl _⟩) hS (me_go hAt hl)
      · intro w hw'
        rcases List.mem_append.mp hw' with hw' | hw'
        · simp only [List.mem_cons, List.not_mem_nil, or_false] at hw'
          rcases hw' with rfl | rfl | rfl | rfl
          · exact hw
          · exact me_wd_in v1
          · exact me_wd_in v2
          · exact g2
        · exact g1 w hw'
      · rw [← hq1]
        exact me_recv hE hP hc.2.2 hq
    next => exact h.elim
  next => exact h.elim
theorem me_x_cu (hK : ∀ pc L st ω, K pc L st ω → me_W y pc L st ω P) {i : Nat} (hd : decode (me_mb y) pc = .ok (.invokevirtual i, 3)) (hz1 : me_cz 7) (hz2 : me_cz 52) (hr1 : me_rmk y 7 = true) (hr2 : me_rmk y 52 = true) (hw : Cond.methodLink (me_mn y).cls i ⟨"WokenOnce$Reader", "takes", "(I)Z"⟩ ∈ me_GT)
    (w1 : Cond.selects "WokenOnce$BellReader" ⟨"WokenOnce$Reader", "takes", "(I)Z"⟩ (me_mn 7) ∈ me_GT) (w2 : Cond.selects "WokenOnce$RuleReader" ⟨"WokenOnce$Reader", "takes", "(I)Z"⟩ (me_mn 52) ∈ me_GT) (w3 : Cond.instanceMethod (me_mn 7) ∈ me_GT) (w4 : Cond.instanceMethod (me_mn 52) ∈ me_GT) (w5 : Cond.sameMethod "WokenOnce$Reader" "WokenOnce$Reader" "takes" "(I)Z" ∈ me_GT) (w6 : Cond.declares ⟨"WokenOnce$Reader", "takes", "(I)Z"⟩ ∈ me_nw)
    (h : me_cu 7 52 st ω pc L K) : me_W y pc L st ω P := by
  unfold me_cu at h
  split at h
  next v k r =>
    have go : ∀ (z ci : Nat) (q : vw_C), me_cz z → me_rmk y z = true → Cond.selects q.1 ⟨"WokenOnce$Reader", "takes", "(I)Z"⟩ (me_mn z) ∈ me_GT → Cond.instanceMethod (me_mn z) ∈ me_GT → vwCl[ci]? = some q → (me_cat8 r && me_iscl k ci) = true → me_af z [.ref k, .int v] ω pc L r K → me_W y pc L (.int v :: .ref k :: r) ω P := by
      intro z ci q hz hrm hsel hin hq hc h
      rw [Bool.and_eq_true] at hc
      have h8 : (r.map fun v => v.category).sum ≤ 8 := Nat.le_of_ble_eq_true hc.1
      obtain ⟨g1, g2, g3, g4, g5, g6⟩ := me_cm_in hz
      intro p l e s m args below meth c G cI cJ ad H locs ls hAt hP hS hl
      obtain ⟨hx, hb, hr, hml, hown, hts, hlk, hE⟩ := id hAt
      have hM := me_af_ct hK h l G cI cJ ad
      have h8' : ((r.map (me_rn ad)).map fun v => v.category).sum ≤ 8 := by rw [me_rn_sum]; exact h8
      have hroom := me_rmk_ok hrm
      refine me_call (va_runU (x := ⟨"WokenOnce$Reader", "takes", "(I)Z"⟩) (owner := "WokenOnce$Reader") (n := 1) (C := q.1) (b := ad k) (As := [.int v]) (rest := r.map (me_rn ad)) ⟨hx, hb, hml, hown, hts⟩ hM ⟨⟨rfl, rfl, hroom.1, hroom.2, pay_in hts (me_good y g1), List.mem_cons_self⟩, hts _ (List.mem_cons_of_mem _ (g1 _ List.mem_cons_self)), hts _ (List.mem_cons_of_mem _ g2), ⟨by decide, by decide⟩, ?_, hts _ (List.mem_cons_of_mem _ hw), hts _ (List.mem_cons_of_mem _ w5), va_Decl.abs (hE.2.2.2 _ w6), hts _ (List.mem_cons_of_mem _ hsel), hts _ (List.mem_cons_of_mem _ hin)⟩ ⟨me_blind _ _ _ _ _ _, me_recv hE hP hc.2 hq, me_pre hE hP hS⟩ rfl rfl hl.1 rfl (lv_room h8') hd ⟨Nat.le_refl _, Nat.le_refl _⟩) hS (me_go hAt hl)
      intro sig hsig
      have h2 : (parseMethodDescriptor "(I)Z").map (fun d => d.parameters.length) = some 1 := by decide +kernel
      rw [show parseMethodDescriptor "(I)Z" = some sig from hsig] at h2
      exact (Option.some.inj h2).symm
    split at h
    next hc => exact go 7 1 _ hz1 hr1 w1 w3 rfl hc h
    next =>
      split at h
      next hc => exact go 52 8 _ hz2 hr2 w2 w4 rfl hc h
      next => exact h.elim
  next => exact h.elim
end SND
