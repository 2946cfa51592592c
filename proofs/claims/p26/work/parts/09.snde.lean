/-! the whole step, runs of it, and a method's contract out of its first place -/
set_option maxRecDepth 1000000 in
set_option maxHeartbeats 4000000 in
theorem me_co : (List.range 185).map (fun z => lw_tbl[(me_mj z).1]?) = (List.range 185).map (fun z => some (Cond.code (me_mn z) (me_mb z) (me_mL z) (me_mr z))) := by rfl
theorem me_cms : ∀ z, z < 185 → me_cz z := by
  have h : (List.range 185).all me_cm = true := by decide +kernel
  intro z hz
  refine ⟨?_, List.all_eq_true.mp h z (List.mem_range.mpr hz)⟩
  have h2 := congrArg (fun l => l[z]?) me_co
  simpa [hz] using h2
theorem me_w_nat : Cond.native arraycopyName ∈ me_GT ∧ Cond.static arraycopyName ∈ me_GT ∧ Cond.initialized "java/lang/System" ∈ me_GT := by decide +kernel
theorem me_w_tk : Cond.selects "WokenOnce$BellReader" ⟨"WokenOnce$Reader", "takes", "(I)Z"⟩ (me_mn 7) ∈ me_GT ∧ Cond.selects "WokenOnce$RuleReader" ⟨"WokenOnce$Reader", "takes", "(I)Z"⟩ (me_mn 52) ∈ me_GT ∧ Cond.instanceMethod (me_mn 7) ∈ me_GT ∧ Cond.instanceMethod (me_mn 52) ∈ me_GT ∧ Cond.sameMethod "WokenOnce$Reader" "WokenOnce$Reader" "takes" "(I)Z" ∈ me_GT ∧ Cond.declares ⟨"WokenOnce$Reader", "takes", "(I)Z"⟩ ∈ me_nw := by decide +kernel
theorem me_w_min : Cond.static Lib.Math.min.name ∈ me_GT ∧ Cond.initialized "java/lang/Math" ∈ me_GT ∧ Cond.code Lib.Math.min.name Lib.Math.min.code 2 (some .int) ∈ me_GT ∧ Cond.static Lib.MathLoose.min_long.x ∈ me_GT ∧ Cond.code Lib.MathLoose.min_long.x Lib.MathLoose.min_long.code 4 (some .long) ∈ me_GT := by decide +kernel
theorem me_dc_ok {b : ByteArray} {pc : Nat} {i : Instr} (h : me_dc b pc i = true) : ∃ n, decode b pc = .ok (i, n) ∧ (me_isw i = false → n = me_ln i) := by
  unfold me_dc at h
  split at h
  next j n hd =>
    simp only [Bool.and_eq_true, decide_eq_true_eq, Bool.or_eq_true, beq_iff_eq] at h
    obtain ⟨rfl, h2⟩ := h
    refine ⟨n, hd, fun hi => ?_⟩
    rcases h2 with h2 | h2
    · exact h2
    · rw [hi] at h2; cases h2
  next => cases h
set_option maxHeartbeats 4000000 in
theorem me_snd {y : Nat} {e : me_E} (hck : me_ck y e = true) {pc : Nat} (hpc : e.1 = pc) {L : List (Option Value)} {st : List Value} {ω : Om} {P : Option Value → Om → Prop} {K : me_K} (hK : ∀ pc L st ω, K pc L st ω → me_W y pc L st ω P) (h : me_st e pc L st ω P K) : me_W y pc L st ω P := by
  obtain ⟨pc0, ins, a, b, j, z⟩ := e
  have hpc : pc0 = pc := hpc
  subst hpc
  unfold me_ck at hck
  rw [Bool.and_eq_true] at hck
  obtain ⟨hdc, hck⟩ := hck
  obtain ⟨n, hd, hn⟩ := me_dc_ok hdc
  cases ins with
  | aload_n k => rw [hn rfl] at hd; exact me_x_aload_n hK hd h
  | iload_n k => rw [hn rfl] at hd; exact me_x_iload_n hK hd h
  | iload k => rw [hn rfl] at hd; exact me_x_iload hK hd h
  | lload_n k => rw [hn rfl] at hd; exact me_x_lload_n hK hd h
  | lload k => rw [hn rfl] at hd; exact me_x_lload hK hd h
  | istore_n k => rw [hn rfl] at hd; exact me_x_istore_n hK hd (of_decide_eq_true hck) h
  | istore k => rw [hn rfl] at hd; exact me_x_istore hK hd (of_decide_eq_true hck) h
  | lstore_n k => rw [hn rfl] at hd; exact me_x_lstore_n hK hd (of_decide_eq_true hck) h
  | lstore k => rw [hn rfl] at hd; exact me_x_lstore hK hd (of_decide_eq_true hck) h
  | iinc k c => rw [hn rfl] at hd; exact me_x_iinc hK hd (of_decide_eq_true hck) h
  | iconst c => rw [hn rfl] at hd; exact me_x_iconst hK hd h
  | bipush c => rw [hn rfl] at hd; exact me_x_bipush hK hd h
  | sipush c => rw [hn rfl] at hd; exact me_x_sipush hK hd h
  | lconst c => rw [hn rfl] at hd; exact me_x_lconst hK hd h
  | ldc c => rw [hn rfl] at hd; exact me_x_ldc hK hd (me_wd_in hck) h
  | ldc_w c => rw [hn rfl] at hd; exact me_x_ldc_w hK hd (me_wd_in hck) h
  | ldc2_w c => rw [hn rfl] at hd; exact me_x_ldc2_w hK hd (me_wd_in hck) h
  | iadd => rw [hn rfl] at hd; exact me_x_iadd hK hd h
  | isub => rw [hn rfl] at hd; exact me_x_isub hK hd h
  | imul => rw [hn rfl] at hd; exact me_x_imul hK hd h
  | iand => rw [hn rfl] at hd; exact me_x_iand hK hd h
  | ior => rw [hn rfl] at hd; exact me_x_ior hK hd h
  | ixor => rw [hn rfl] at hd; exact me_x_ixor hK hd h
  | ishl => rw [hn rfl] at hd; exact me_x_ishl hK hd h
  | ishr => rw [hn rfl] at hd; exact me_x_ishr hK hd h
  | iushr => rw [hn rfl] at hd; exact me_x_iushr hK hd h
  | idiv => rw [hn rfl] at hd; exact me_x_idiv hK hd h
  | irem => rw [hn rfl] at hd; exact me_x_irem hK hd h
  | ladd => rw [hn rfl] at hd; exact me_x_ladd hK hd h
  | lsub => rw [hn rfl] at hd; exact me_x_lsub hK hd h
  | lmul => rw [hn rfl] at hd; exact me_x_lmul hK hd h
  | land => rw [hn rfl] at hd; exact me_x_land hK hd h
  | ldiv => rw [hn rfl] at hd; exact me_x_ldiv hK hd h
  | lrem => rw [hn rfl] at hd; exact me_x_lrem hK hd h
  | lneg => rw [hn rfl] at hd; exact me_x_lneg hK hd h
  | lcmp => rw [hn rfl] at hd; exact me_x_lcmp hK hd h
  | lushr => rw [hn rfl] at hd; exact me_x_lushr hK hd h
  | i2l => rw [hn rfl] at hd; exact me_x_i2l hK hd h
  | l2i => rw [hn rfl] at hd; exact me_x_l2i hK hd h
  | dup => rw [hn rfl] at hd; exact me_x_dup hK hd h
  | dup2 => rw [hn rfl] at hd; exact me_x_dup2 hK hd h
  | pop2 => rw [hn rfl] at hd; exact me_x_pop2 hK hd h
  | goto o => rw [hn rfl] at hd; exact me_x_goto hK hd (of_decide_eq_true hck) h
  | ifCond cn o =>
    rw [hn rfl] at hd
    cases cn with
    | eq => exact me_x_if_eq hK hd (of_decide_eq_true hck) h
    | ne => exact me_x_if_ne hK hd (of_decide_eq_true hck) h
    | lt => exact me_x_if_lt hK hd (of_decide_eq_true hck) h
    | ge => exact me_x_if_ge hK hd (of_decide_eq_true hck) h
    | gt => exact me_x_if_gt hK hd (of_decide_eq_true hck) h
    | le => exact me_x_if_le hK hd (of_decide_eq_true hck) h
  | if_icmp cn o =>
    rw [hn rfl] at hd
    cases cn with
    | eq => exact me_x_icmp_eq hK hd (of_decide_eq_true hck) h
    | ne => exact me_x_icmp_ne hK hd (of_decide_eq_true hck) h
    | lt => exact me_x_icmp_lt hK hd (of_decide_eq_true hck) h
    | ge => exact me_x_icmp_ge hK hd (of_decide_eq_true hck) h
    | gt => exact me_x_icmp_gt hK hd (of_decide_eq_true hck) h
    | le => exact me_x_icmp_le hK hd (of_decide_eq_true hck) h
  | tableswitch d lo hi offs =>
    have hck : (me_jp pc0 d && offs.toList.all (me_jp pc0) && decide (hi = lo + offs.size - 1) && decide (-1000000 < lo) && decide (hi < 1000000) && decide (lo ≤ hi)) = true := hck
    simp only [Bool.and_eq_true, decide_eq_true_eq] at hck
    obtain ⟨⟨⟨⟨⟨h1, h2⟩, h3⟩, h4⟩, h5⟩, h6⟩ := hck
    exact me_x_table hK hd (of_decide_eq_true h1) (fun o ho => of_decide_eq_true (List.all_eq_true.mp h2 o ho)) h3 h4 h5 h
  | lookupswitch d ps =>
    have hck : (me_jp pc0 d && ps.toList.all (fun q => me_jp pc0 q.2 && decide ((Int32.ofInt q.1).toInt = q.1)) && (ps.toList.zip (ps.toList.drop 1)).all (fun (a, next) => a.1 < next.1)) = true := hck
    rw [Bool.and_eq_true, Bool.and_eq_true] at hck
    obtain ⟨⟨h1, h2⟩, h3⟩ := hck
    refine me_x_lookup hK hd (of_decide_eq_true h1) (fun q hq => ?_) (fun q hq => ?_) h3 h
    · have := List.all_eq_true.mp h2 q hq
      rw [Bool.and_eq_true] at this
      exact of_decide_eq_true this.1
    · have := List.all_eq_true.mp h2 q hq
      rw [Bool.and_eq_true] at this
      exact of_decide_eq_true this.2
  | getfield i =>
    rw [hn rfl] at hd
    rw [Bool.and_eq_true, Bool.and_eq_true] at hck
    exact me_x_getfield hK hd (of_decide_eq_true hck.1.1) (of_decide_eq_true hck.1.2) (me_wd_in hck.2) h
  | putfield i =>
    rw [hn rfl] at hd
    rw [Bool.and_eq_true, Bool.and_eq_true, Bool.and_eq_true] at hck
    exact me_x_putfield hK hd (of_decide_eq_true hck.1.1.1) (of_decide_eq_true hck.1.1.2) hck.1.2 (me_wd_in hck.2) h
  | getstatic i =>
    rw [hn rfl] at hd
    rw [Bool.or_eq_true, Bool.and_eq_true, Bool.and_eq_true] at hck
    refine me_x_getstatic hK hd ?_ h
    rcases hck with hck | hck
    · exact Or.inl ⟨eq_of_beq hck.1, me_wd_in hck.2⟩
    · exact Or.inr ⟨eq_of_beq hck.1, me_wd_in hck.2⟩
  | arraylength => rw [hn rfl] at hd; exact me_x_arraylength hK hd h
  | iaload => rw [hn rfl] at hd; exact me_x_iaload hK hd h
  | laload => rw [hn rfl] at hd; exact me_x_laload hK hd h
  | iastore => rw [hn rfl] at hd; exact me_x_iastore hK hd h
  | lastore => rw [hn rfl] at hd; exact me_x_lastore hK hd h
  | invokevirtual i =>
    rw [hn rfl] at hd
    have h : if b == 3 then me_cu a z.toNat st ω pc0 L K else me_cv a (me_mp a) st ω pc0 L K := h
    have hck : (if b == 3 then me_wd j (.methodLink (me_mn y).cls i ⟨"WokenOnce$Reader", "takes", "(I)Z"⟩) && (a == 7 && (z.toNat == 52 && (me_rmk y 7 && me_rmk y 52))) else decide (a < 185) && me_rmk y a && me_wd j (.methodLink (me_mn y).cls i (me_mn a)) && me_vi a) = true := hck
    by_cases hb : (b == 3) = true
    · rw [if_pos hb] at h hck
      simp only [Bool.and_eq_true] at hck
      obtain ⟨h1, h2, h3, h4, h5⟩ := hck
      obtain rfl := eq_of_beq h2
      rw [eq_of_beq h3] at h
      obtain ⟨t1, t2, t3, t4, t5, t6⟩ := me_w_tk
      exact me_x_cu hK hd (me_cms 7 (by decide)) (me_cms 52 (by decide)) h4 h5 (me_wd_in h1) t1 t2 t3 t4 t5 t6 h
    · rw [if_neg hb] at h hck
      simp only [Bool.and_eq_true, decide_eq_true_eq] at hck
      obtain ⟨⟨⟨h1, h2⟩, h3⟩, h4⟩ := hck
      exact me_x_cv hK hd (me_cms a h1) h2 h4 (me_wd_in h3) h
  | invokestatic i =>
    rw [hn rfl] at hd
    have h : if b == 4 then me_cp st ω pc0 L K else if b == 5 then me_i2 st (fun a b r => if me_cat8 r then K (pc0 + 3) L (.int (if b < a then b else a) :: r) ω else False) else if b == 6 then me_j2 st (fun a b r => if me_cat8 r then K (pc0 + 3) L (.long (if b < a then b else a) :: r) ω else False) else me_cs a (me_mp a) st ω pc0 L K := h
    have hck : (if b == 4 then me_wd j (.methodLink (me_mn y).cls i arraycopyName) && decide (1 ≤ (me_mf y).1) && decide (26 ≤ (me_mf y).2) else if b == 5 then me_wd j (.methodLink (me_mn y).cls i Lib.Math.min.name) && decide (1 ≤ (me_mf y).1) && decide (21 ≤ (me_mf y).2) else if b == 6 then me_wd j (.methodLink (me_mn y).cls i Lib.MathLoose.min_long.x) && decide (1 ≤ (me_mf y).1) && decide (23 ≤ (me_mf y).2) else decide (a < 185) && me_rmk y a && me_wd (me_mj a).2.2.1 (.static (me_mn a)) && (if b == 2 then decide (lw_tbl[j]? = some (.methodLinkNest (me_mn y).cls i (me_mn a) "WokenOnce")) else me_wd j (.methodLink (me_mn y).cls i (me_mn a)))) = true := hck
    by_cases hb : (b == 4) = true
    · rw [if_pos hb] at h hck
      simp only [Bool.and_eq_true, decide_eq_true_eq] at hck
      obtain ⟨⟨h1, h2⟩, h3⟩ := hck
      obtain ⟨t1, t2, t3⟩ := me_w_nat
      exact me_x_copy hK hd (me_wd_in h1) h2 h3 t1 t2 t3 h
    rw [if_neg hb] at h hck
    by_cases hb5 : (b == 5) = true
    · rw [if_pos hb5] at h hck
      simp only [Bool.and_eq_true, decide_eq_true_eq] at hck
      obtain ⟨⟨h1, h2⟩, h3⟩ := hck
      obtain ⟨t1, t2, t3, t4, t5⟩ := me_w_min
      exact me_x_min hK hd (me_wd_in h1) h2 h3 t1 t2 t3 h
    rw [if_neg hb5] at h hck
    by_cases hb6 : (b == 6) = true
    · rw [if_pos hb6] at h hck
      simp only [Bool.and_eq_true, decide_eq_true_eq] at hck
      obtain ⟨⟨h1, h2⟩, h3⟩ := hck
      obtain ⟨t1, t2, t3, t4, t5⟩ := me_w_min
      exact me_x_minl hK hd (me_wd_in h1) h2 h3 t4 t2 t5 h
    · rw [if_neg hb6] at h hck
      simp only [Bool.and_eq_true, decide_eq_true_eq] at hck
      obtain ⟨⟨⟨h1, h2⟩, h3⟩, h4⟩ := hck
      refine me_x_cs hK hd (me_cms a h1) h2 (me_wd_in h3) ?_ h
      by_cases hb2 : (b == 2) = true
      · rw [if_pos hb2] at h4; exact Or.inr (List.mem_filter.mpr ⟨List.mem_of_getElem? (of_decide_eq_true h4), rfl⟩)
      · rw [if_neg hb2] at h4; exact Or.inl (me_wd_in h4)
  | ireturn =>
    rw [hn rfl] at hd
    have hck : ((a == 1 && decide (me_mr y = some .boolean)) || (a == 0 && decide (me_mr y = some .int))) = true := hck
    simp only [Bool.or_eq_true, Bool.and_eq_true, decide_eq_true_eq, beq_iff_eq] at hck
    exact me_x_ireturn hd hck h
  | lreturn => rw [hn rfl] at hd; exact me_x_lreturn hd (of_decide_eq_true hck) h
  | return_ => rw [hn rfl] at hd; exact me_x_return hd (of_decide_eq_true hck) h
  | _ => exact False.elim h
/-- runs: up to n steps, resting at the places 'cuts', where the named locals alone are kept -/
def me_at (cd : List me_E) (pc : Nat) : Option me_E := cd.find? (fun e => e.1 == pc)
def me_mk : Nat → List Nat → List (Option Value) → List (Option Value)
  | _, _, [] => []
  | i, ks, x :: t => (if ks.elem i then x else none) :: me_mk (i + 1) ks t
theorem me_mk_sub : ∀ (L : List (Option Value)) (i : Nat) (ks : List Nat) (j : Nat) (v : Value), (me_mk i ks L)[j]? = some (some v) → L[j]? = some (some v)
  | [], _, _, _, _, h => by simp [me_mk] at h
  | x :: t, i, ks, 0, v, h => by
    simp only [me_mk, List.getElem?_cons_zero, Option.some.injEq] at h
    split at h
    · simp [h]
    · cases h
  | x :: t, i, ks, j + 1, v, h => by
    simp only [me_mk, List.getElem?_cons_succ] at h ⊢
    exact me_mk_sub t (i + 1) ks j v h
def me_wp (cd : List me_E) (y : Nat) (cuts : List (Nat × List Nat)) (P : Option Value → Om → Prop) : Nat → me_K
  | 0 => fun pc L st ω => me_W y pc L st ω P
  | n + 1 => fun pc L st ω => match cuts.find? (fun q => q.1 == pc) with
    | some q => me_W y pc (me_mk 0 q.2 L) st ω P
    | none => (match me_at cd pc with
      | some e => me_st e pc L st ω P (me_wp cd y cuts P n)
      | none => False)
/-- .. the first step in any case -/
def me_w1 (cd : List me_E) (y : Nat) (cuts : List (Nat × List Nat)) (n pc : Nat) (L : List (Option Value)) (st : List Value) (ω : Om) (P : Option Value → Om → Prop) : Prop := match me_at cd pc with
    | some e => me_st e pc L st ω P (me_wp cd y cuts P n)
    | none => False
theorem me_at_ok {cd : List me_E} {pc : Nat} {e : me_E} (h : me_at cd pc = some e) : e ∈ cd ∧ e.1 = pc := ⟨List.mem_of_find?_eq_some h, by have := List.find?_some (p := fun e : me_E => e.1 == pc) h; exact eq_of_beq this⟩
theorem me_wp_ok {cd : List me_E} {y : Nat} (hc : cd.all (me_ck y) = true) {cuts : List (Nat × List Nat)} {P : Option Value → Om → Prop} : ∀ (n pc : Nat) (L : List (Option Value)) (st : List Value) (ω : Om), me_wp cd y cuts P n pc L st ω → me_W y pc L st ω P
  | 0, _, _, _, _, h => h
  | n + 1, pc, L, st, ω, h => by
    unfold me_wp at h
    split at h
    next q _ => exact me_W.sub h (me_mk_sub L 0 q.2)
    next =>
      split at h
      next e he =>
        obtain ⟨h1, h2⟩ := me_at_ok he
        exact me_snd (List.all_eq_true.mp hc e h1) h2 (me_wp_ok hc n) h
      next => exact h.elim
theorem me_w1_ok {cd : List me_E} {y : Nat} (hc : cd.all (me_ck y) = true) {cuts : List (Nat × List Nat)} {P : Option Value → Om → Prop} {n pc : Nat} {L : List (Option Value)} {st : List Value} {ω : Om} (h : me_w1 cd y cuts n pc L st ω P) : me_W y pc L st ω P := by
  unfold me_w1 at h
  split at h
  next e he =>
    obtain ⟨h1, h2⟩ := me_at_ok he
    exact me_snd (List.all_eq_true.mp hc e h1) h2 (me_wp_ok hc n) h
  next => exact h.elim
/-- the locals at a method's entry -/
def me_ex : List Value → List (Option Value)
  | [] => []
  | v :: t => if v.category = 2 then some v :: none :: me_ex t else some v :: me_ex t
def me_en (n : Nat) (as : List Value) : List (Option Value) := me_ex as ++ List.replicate (n - (me_ex as).length) none
theorem me_ex_args (ad : Nat → Nat) : ∀ (as : List Value) (i k : Nat) (v : Value), (me_ex as)[k]? = some (some v) → (i + k, me_rn ad v) ∈ lv_args i (as.map (me_rn ad))
  | [], _, k, _, h => by simp [me_ex] at h
  | w :: t, i, k, v, h => by
    rw [me_ex] at h
    rw [List.map_cons, lv_args, me_rn_cat]
    by_cases hc : w.category = 2
    · rw [if_pos hc] at h ⊢
      match k, h with
      | 0, h => simp at h; rw [h]; exact List.mem_cons_self
      | 1, h => simp at h
      | k + 2, h =>
        have := me_ex_args ad t (i + 2) k v (by simpa using h)
        rw [show i + 2 + k = i + (k + 2) by omega] at this
        exact List.mem_cons_of_mem _ this
    · rw [if_neg hc] at h ⊢
      match k, h with
      | 0, h => simp at h; rw [h]; exact List.mem_cons_self
      | k + 1, h =>
        have := me_ex_args ad t (i + 1) k v (by simpa using h)
        rw [show i + 1 + k = i + (k + 1) by omega] at this
        exact List.mem_cons_of_mem _ this
theorem me_ex_len (ad : Nat → Nat) : ∀ as : List Value, (lg_sl (as.map (me_rn ad))).length = (me_ex as).length
  | [] => rfl
  | v :: t => by
    have ih := me_ex_len ad t
    unfold lg_sl at ih ⊢
    rw [List.map_cons, List.flatMap_cons, List.length_append, ih, me_ex, me_rn_cat]
    by_cases hc : v.category = 2
    · rw [if_pos hc, if_pos hc]; simp; omega
    · rw [if_neg hc, if_neg hc]; simp; omega
/-- THE CONTRACT out of the judgement at the first place -/
theorem me_Ct.of {y : Nat} (hy : y < 185) {as : List Value} {ω : Om} {P : Option Value → Om → Prop} (hl : (me_ex as).length ≤ me_mL y) (h : me_W y 0 (me_en (me_mL y) as) [] ω P) : me_Ct y as ω P := by
  intro l G cI cJ ad
  obtain ⟨g1, g2, g3, g4, g5, g6⟩ := me_cm_in (me_cms y hy)
  refine Met.ofW (cc := me_mb y) (maxL := me_mL y) (ret := me_mr y) g3 rfl ?_
  intro p e s m args below meth c s₁ B hml hv
  obtain ⟨rfl, hP, hE⟩ := hv
  have hts := atoms_spec (ws := me_ws y) B.pre
  have hown : s.vm.findClass (me_mn y).cls = some m.cls := findClass_of_methodNamed B.named
  have hll := lv_entry (as.map (me_rn ad)) (n := me_mL y) (by rw [me_ex_len]; exact hl)
  rw [lg_entry_eq]
  generalize (lg_sl (as.map (me_rn ad)) ++ List.replicate (me_mL y - (lg_sl (as.map (me_rn ad))).length) Slot.unset).toArray = ls at hll ⊢
  refine h p l e s m _ below meth c G cI cJ ad s.heap [] ls ⟨B.exec, B.bytes, B.returns, hml, hown, hts, B.notSynchronized, hE⟩ hP va_S.rf ⟨hll.1, hll.2.1, fun q hq => ?_⟩
  obtain ⟨⟨i, v⟩, h1, rfl⟩ := List.mem_map.mp hq
  rw [me_ll_mem] at h1
  obtain ⟨k, e1, h2⟩ := h1
  obtain rfl : i = k := by omega
  refine hll.2.2 (i, me_rn ad v) ?_
  have h3 : (me_ex as)[i]? = some (some v) := by
    unfold me_en at h2
    by_cases hi : i < (me_ex as).length
    · rwa [List.getElem?_append_left hi] at h2
    · rw [List.getElem?_append_right (by omega), List.getElem?_replicate] at h2
      split at h2 <;> cases h2
  have := me_ex_args ad as 0 i v h3
  rwa [Nat.zero_add] at this
theorem me_Ct.mono {z : Nat} {as : List Value} {ω : Om} {Q Q' : Option Value → Om → Prop} (hc : me_Ct z as ω Q) (hq : ∀ v ω', Q v ω' → Q' v ω') : me_Ct z as ω Q' := by
  intro l G cI cJ ad p e ha hcc hk s m args below hf hap hP hX
  obtain ⟨k, o, h1, h2, h3, ⟨⟨v, ω', e1, e2, e3⟩, e4⟩, h5⟩ := hc l G cI cJ ad p e ha hcc hk s m args below hf hap hP hX
  exact ⟨k, o, h1, h2, h3, ⟨⟨v, ω', e1, hq v ω' e2, e3⟩, e4⟩, h5⟩
/-- .. of a method by its code -/
theorem me_ct {cd : List me_E} {y : Nat} (hc : cd.all (me_ck y) = true) (hy : y < 185) {cuts : List (Nat × List Nat)} (n : Nat) {as : List Value} {ω : Om} {P : Option Value → Om → Prop} (hl : (me_ex as).length ≤ me_mL y) (h : me_w1 cd y cuts n 0 (me_en (me_mL y) as) [] ω P) : me_Ct y as ω P := me_Ct.of hy hl (me_w1_ok hc h)
