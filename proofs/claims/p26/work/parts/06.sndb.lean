/-! switches, fields, rows, returns -/
def me_fo (x : Int32) (d : Int) : List (Int × Int) → Int
  | [] => d
  | (v, o) :: t => if x = Int32.ofInt v then o else me_fo x d t
theorem me_sw_fo {pc : Nat} {x : Int32} {d : Int} {k : Nat → Prop} : ∀ (l : List (Int × Int)), me_sw pc x d k l → k (me_tg pc (me_fo x d l))
  | [], h => h
  | (v, o) :: t, h => by
    unfold me_fo
    by_cases hx : x = Int32.ofInt v
    · rw [if_pos hx]; exact h.1 hx
    · rw [if_neg hx]; exact me_sw_fo t (h.2 hx)
theorem me_fo_jp {pc : Nat} {x : Int32} {d : Int} : ∀ (l : List (Int × Int)), 0 ≤ (pc : Int) + d → (∀ q ∈ l, 0 ≤ (pc : Int) + q.2) → 0 ≤ (pc : Int) + me_fo x d l
  | [], hd, _ => hd
  | (v, o) :: t, hd, h => by
    unfold me_fo
    split
    · exact h (v, o) List.mem_cons_self
    · exact me_fo_jp t hd (fun q hq => h q (List.mem_cons_of_mem _ hq))
theorem me_fo_lk {x : Int32} {d : Int} : ∀ (l : List (Int × Int)), (∀ q ∈ l, (Int32.ofInt q.1).toInt = q.1) → Op.lookupswitch.offset l d x.toInt = me_fo x d l
  | [], _ => rfl
  | (v, o) :: t, h => by
    rw [Op.lookupswitch.offset_cons]
    unfold me_fo
    have hv := h (v, o) List.mem_cons_self
    by_cases hx : x = Int32.ofInt v
    · rw [if_pos hx, if_pos (by rw [hx]; exact hv.symm)]
    · rw [if_neg hx, if_neg (fun q => hx (Int32.toInt_inj.mp (by rw [hv]; exact q.symm)))]
      exact me_fo_lk t (fun q hq => h q (List.mem_cons_of_mem _ hq))
theorem me_ofI {z : Int} (h1 : -1000000 < z) (h2 : z < 1000000) : (Int32.ofInt z).toInt = z := by
  rw [Int32.toInt_ofInt, Int.bmod_def, show Int32.size = 4294967296 from rfl]
  omega
theorem me_fo_ps {x : Int32} {d : Int} : ∀ (offs : List Int) (lo : Int), -1000000 < lo → lo + offs.length ≤ 1000000 → me_fo x d (me_ps lo offs) = if x.toInt < lo ∨ lo + offs.length ≤ x.toInt then d else (offs[(x.toInt - lo).toNat]?).getD d
  | [], lo, _, _ => by simp [me_ps, me_fo]
  | o :: t, lo, h1, h2 => by
    rw [me_ps, me_fo]
    simp only [List.length_cons] at h2 ⊢
    have hlo : (Int32.ofInt lo).toInt = lo := me_ofI h1 (by omega)
    by_cases hx : x = Int32.ofInt lo
    · have e : x.toInt = lo := by rw [hx]; exact hlo
      rw [if_pos hx, if_neg (by omega), e]
      simp
    · have e : ¬ x.toInt = lo := fun q => hx (Int32.toInt_inj.mp (by rw [hlo]; exact q))
      rw [if_neg hx, me_fo_ps t (lo + 1) (by omega) (by omega)]
      by_cases hr : x.toInt < lo ∨ lo + ↑(t.length + 1) ≤ x.toInt
      · rw [if_pos hr, if_pos (by omega)]
      · rw [if_neg hr, if_neg (by omega)]
        have : (x.toInt - lo).toNat = (x.toInt - (lo + 1)).toNat + 1 := by omega
        rw [this, List.getElem?_cons_succ]
theorem me_ps_mem : ∀ (offs : List Int) (lo : Int) (q : Int × Int), q ∈ me_ps lo offs → q.2 ∈ offs
  | [], lo, q, h => by simp [me_ps] at h
  | o :: t, lo, q, h => by
    rw [me_ps] at h
    rcases List.mem_cons.mp h with rfl | h
    · exact List.mem_cons_self
    · exact List.mem_cons_of_mem _ (me_ps_mem t (lo + 1) q h)
section SNB
variable {y pc : Nat} {L : List (Option Value)} {st : List Value} {ω : Om} {P : Option Value → Om → Prop} {K : me_K}
theorem me_x_lookup (hK : ∀ pc L st ω, K pc L st ω → me_W y pc L st ω P) {d : Int} {ps : Array (Int × Int)} {len : Nat} (hd : decode (me_mb y) pc = .ok (.lookupswitch d ps, len)) (h0 : 0 ≤ (pc : Int) + d) (h1 : ∀ q ∈ ps.toList, 0 ≤ (pc : Int) + q.2) (h2 : ∀ q ∈ ps.toList, (Int32.ofInt q.1).toInt = q.1) (h3 : (ps.toList.zip (ps.toList.drop 1)).all (fun (a, next) => a.1 < next.1) = true)
    (h : me_i1 st fun a r => me_sw pc a d (fun t => K t L r ω) ps.toList) : me_W y pc L st ω P := by
  unfold me_i1 at h
  split at h
  next a r =>
    intro p l e s m args below meth c G cI cJ ad H locs ls hAt hP hS hl
    obtain ⟨hx, hb, hr, hml, hown, hts, hlk, hE⟩ := id hAt
    exact lv_lookup hx hb hd h3 (me_fo_lk _ h2) (me_tg_ok (me_fo_jp _ h0 h1)) (hK _ _ _ _ (me_sw_fo _ h) p l e s m args below meth c G cI cJ ad H locs ls hAt hP hS hl)
  next => exact h.elim
theorem me_x_table (hK : ∀ pc L st ω, K pc L st ω → me_W y pc L st ω P) {d lo hi : Int} {offs : Array Int} {len : Nat} (hd : decode (me_mb y) pc = .ok (.tableswitch d lo hi offs, len)) (h0 : 0 ≤ (pc : Int) + d) (h1 : ∀ o ∈ offs.toList, 0 ≤ (pc : Int) + o) (h2 : hi = lo + offs.size - 1) (h3 : -1000000 < lo) (h4 : hi < 1000000)
    (h : me_i1 st fun a r => me_sw pc a d (fun t => K t L r ω) (me_ps lo offs.toList)) : me_W y pc L st ω P := by
  unfold me_i1 at h
  split at h
  next a r =>
    intro p l e s m args below meth c G cI cJ ad H locs ls hAt hP hS hl
    obtain ⟨hx, hb, hr, hml, hown, hts, hlk, hE⟩ := id hAt
    have hk := hK _ _ _ _ (me_sw_fo _ h) p l e s m args below meth c G cI cJ ad H locs ls hAt hP hS hl
    have hj := me_fo_jp (x := a) (me_ps lo offs.toList) h0 (fun q hq => h1 _ (me_ps_mem _ _ _ hq))
    have hl2 : offs.toList.length = offs.size := Array.length_toList
    rw [me_fo_ps offs.toList lo h3 (by omega)] at hk hj
    by_cases hc : a.toInt < lo ∨ hi < a.toInt
    · rw [if_pos (by omega)] at hk hj
      exact lv_tableOut hx hb hd hc (me_tg_ok hj) hk
    · rw [if_neg (by omega)] at hk hj
      have hlt : (a.toInt - lo).toNat < offs.toList.length := by omega
      have hg : offs.toList[(a.toInt - lo).toNat]? = some (offs.toList[(a.toInt - lo).toNat]'hlt) := List.getElem?_eq_getElem hlt
      rw [hg, Option.getD_some] at hk hj
      refine lv_tableIn hx hb hd (fun q => hc (Or.inl q)) (fun q => hc (Or.inr q)) ?_ (me_tg_ok hj) hk
      rw [← Array.getElem?_toList]
      exact hg
  next => exact h.elim
/-- the class of a number -/
theorem me_cls (a : Nat) (h : a < 12) : ∃ (C : String) (T : u_T) (N : Nat), vwCl[a]? = some (C, T, N) ∧ (∀ b, me_T a b = T b) ∧ me_N a = N := by
  have hl : a < vwCl.length := h
  refine ⟨(vwCl[a]'hl).1, (vwCl[a]'hl).2.1, (vwCl[a]'hl).2.2, List.getElem?_eq_getElem hl, fun b => ?_, ?_⟩
  · simp only [me_T, List.getElem?_eq_getElem hl]
  · simp only [me_N, List.getElem?_eq_getElem hl]
theorem me_lays : ∀ (a : Nat) (C : String) (T : u_T) (N : Nat), vwCl[a]? = some (C, T, N) → ∀ w ∈ u_ws C T N, w ∈ me_GT := by
  have key : ∀ q ∈ vwCl, (u_ws q.1 q.2.1 q.2.2).all (fun w => decide (w ∈ lw_tbl) && goodWord w) = true := by decide +kernel
  intro a C T N h w hw
  have h1 := List.all_eq_true.mp (key _ (List.mem_of_getElem? h)) w hw
  simp only [Bool.and_eq_true, decide_eq_true_eq] at h1
  exact List.mem_filter.mpr h1
theorem me_names : ∀ (a : Nat) (C : String) (T : u_T) (N : Nat), vwCl[a]? = some (C, T, N) → (∀ i, i < N → ∀ j, j < N → i ≠ j → (T i).2.1 ≠ (T j).2.1) ∧ ∃ ty : Nat → FieldType, ∀ k, k < N → parseFieldDescriptor (T k).2.2.1 = some (ty k) := by
  intro a C T N h
  match a, h with
  | 0, h => cases h; exact ⟨nmX0, tyX0, tyX0_ok⟩
  | 1, h => cases h; exact ⟨nmX1, tyX1, tyX1_ok⟩
  | 2, h => cases h; exact ⟨nmX2, tyX2, tyX2_ok⟩
  | 3, h => cases h; exact ⟨nmX3, tyX3, tyX3_ok⟩
  | 4, h => cases h; exact ⟨nmX4, tyX4, tyX4_ok⟩
  | 5, h => cases h; exact ⟨nmX5, tyX5, tyX5_ok⟩
  | 6, h => cases h; exact ⟨nmX6, tyX6, tyX6_ok⟩
  | 7, h => cases h; exact ⟨nmX8, tyX8, tyX8_ok⟩
  | 8, h => cases h; exact ⟨nmX9, tyX9, tyX9_ok⟩
  | 9, h => cases h; exact ⟨nmX10, tyX10, tyX10_ok⟩
  | 10, h => cases h; exact ⟨nmX11, tyX11, tyX11_ok⟩
  | 11, h => cases h; exact ⟨nmX12, tyX12, tyX12_ok⟩
  | n + 12, h => simp at h
theorem me_ce_ob {cI cJ : ClassId} {ad : Nat → Nat} {fi : Nat → Int32} {fl : Nat → Int64} {q : Nat × List Nat} (h : q.1 < 12) : me_ce cI cJ ad fi fl q = .inr (q.1, q.2.mapIdx (me_fv ad fi fl)) := by
  unfold me_ce
  rw [if_neg (by omega), if_neg (by omega)]
theorem me_x_getfield (hK : ∀ pc L st ω, K pc L st ω → me_W y pc L st ω P) {i a b : Nat} (hd : decode (me_mb y) pc = .ok (.getfield i, 3)) (ha : a < 12) (hbN : b < me_N a) (hw : Cond.fieldLink (me_mn y).cls i (me_T a b).1 (me_T a b).2.1 (me_T a b).2.2.1 ∈ me_GT)
    (h : me_r1 st fun k r => me_gf k a b ω fun v => K (pc + 3) L (v :: r) ω) : me_W y pc L st ω P := by
  unfold me_r1 at h
  split at h
  next k r =>
    intro p l e s m args below meth c G cI cJ ad H locs ls hAt hP hS hl
    obtain ⟨hx, hb, hr, hml, hown, hts, hlk, hE⟩ := id hAt
    obtain ⟨C, T, N, hc, hT, hN⟩ := me_cls a ha
    rw [hN] at hbN
    rw [hT b] at hw
    unfold me_gf at h
    split at h
    next c0 ks hk =>
      split at h
      next hca =>
        obtain rfl : c0 = a := eq_of_beq hca
        have hat := me_cc_at (cI := cI) (cJ := cJ) (ad := ad) (ω := ω) hk
        rw [me_ce_ob ha] at hat
        have go : ∀ (x : Nat) (v : Value), ks[b]? = some x → me_fv ad (ω.1 k) (ω.2 k) b x = me_rn ad v → K (pc + 3) L (v :: r) ω → W p l e (me_rm y) s m args below meth c H locs 0 0 (MQ below (me_Post G cI cJ ad P) args s 0 0 (me_A ad)) (F0 m pc ls (.ref (ad k) :: r.map (me_rn ad))) := by
          intro x v h1 h2 h3
          refine va_get hx hb hts (fun w hw' => List.mem_cons_of_mem _ (me_lays _ _ _ _ hc w hw')) hown hE.1 hP k hat hc b hbN (hts _ (List.mem_cons_of_mem _ hw)) (fun _ h9 => h9) (v := me_rn ad v) ?_ hd (hK _ _ _ _ h3 p l e s m args below meth c G cI cJ ad H locs ls hAt hP hS hl)
          show (ks.mapIdx (me_fv ad (ω.1 k) (ω.2 k)))[b]? = _
          rw [List.getElem?_mapIdx, h1, Option.map_some, h2]
        split at h
        next h1 => exact go 0 _ h1 rfl h
        next h1 => exact go 1 _ h1 rfl h
        next n h1 => exact go (n + 2) _ h1 rfl h
        next => exact h.elim
      next => exact h.elim
    next => exact h.elim
  next => exact h.elim
theorem me_mapIdx_set {α : Type} {ks : List Nat} {b : Nat} {f g : Nat → Nat → α} {v : α} {x : Nat} (hx : ks[b]? = some x) (hv : g b x = v) (hne : ∀ j z, j ≠ b → g j z = f j z) : (ks.mapIdx f).set b v = ks.mapIdx g := by
  refine List.ext_getElem? fun j => ?_
  rw [List.getElem?_set, List.length_mapIdx]
  by_cases hj : b = j
  · subst hj
    rw [if_pos rfl, if_pos (List.getElem?_eq_some_iff.mp hx).1, List.getElem?_mapIdx, hx, Option.map_some, hv]
  · rw [if_neg hj, List.getElem?_mapIdx, List.getElem?_mapIdx]
    cases ks[j]? with
    | none => rfl
    | some z => rw [Option.map_some, Option.map_some, hne j z (Ne.symm hj)]
theorem me_x_putfield (hK : ∀ pc L st ω, K pc L st ω → me_W y pc L st ω P) {i a b : Nat} (hd : decode (me_mb y) pc = .ok (.putfield i, 3)) (ha : a < 12) (hbN : b < me_N a) (hf : me_fn a b = true) (hw : Cond.fieldLink (me_mn y).cls i (me_T a b).1 (me_T a b).2.1 (me_T a b).2.2.1 ∈ me_GT)
    (h : me_pf st a b ω fun r ω' => K (pc + 3) L r ω') : me_W y pc L st ω P := by
  obtain ⟨C, T, N, hc, hT, hN⟩ := me_cls a ha
  rw [hN] at hbN
  rw [hT b] at hw
  unfold me_fn at hf
  rw [hT b, Bool.and_eq_true] at hf
  obtain ⟨hf1, hf2⟩ := hf
  have hf1 : (T b).2.2.2 = false := eq_of_beq hf1
  have hf2 := eq_of_beq hf2
  obtain ⟨hnm, ty0, hty⟩ := me_names a C T N hc
  have go : ∀ (k : Nat) (ks : List Nat) (v : Value) (r : List Value) (ω' : Om) (x : Nat) (ty : FieldType), me_lay[k]? = some (a, ks) → ks[b]? = some x → parseFieldDescriptor (T b).2.2.1 = some ty → narrow ty v = v → fits ty v = true → (∀ ad, me_rn ad v = v) → (∀ i, i ≠ k → ω'.1 i = ω.1 i) → (∀ i, i ≠ k → ω'.2 i = ω.2 i) → (∀ ad, me_fv ad (ω'.1 k) (ω'.2 k) b x = v) → (∀ ad j z, j ≠ b → me_fv ad (ω'.1 k) (ω'.2 k) j z = me_fv ad (ω.1 k) (ω.2 k) j z) → K (pc + 3) L r ω' → me_W y pc L (v :: .ref k :: r) ω P := by
    intro k ks v r ω' x ty hk hkb hp hn hfi hrn h1 h2 hfv hfj hKK
    intro p l e s m args below meth c G cI cJ ad H locs ls hAt hP hS hl
    obtain ⟨hx, hb, hr, hml, hown, hts, hlk, hE⟩ := id hAt
    have hat := me_cc_at (cI := cI) (cJ := cJ) (ad := ad) (ω := ω) hk
    rw [me_ce_ob ha] at hat
    show W p l e (me_rm y) s m args below meth c H locs 0 0 _ (F0 m pc ls (me_rn ad v :: .ref (ad k) :: r.map (me_rn ad)))
    rw [hrn ad]
    refine va_put hx hb hts (fun w hw' => List.mem_cons_of_mem _ (me_lays _ _ _ _ hc w hw')) ty0 hty hnm hown hE.1 hP (me_D hE.2.1) hS k hat hc b hbN (hts _ (List.mem_cons_of_mem _ hw)) (fun _ h9 => h9) hf1 hp hn hfi (by rw [List.length_mapIdx]; exact (List.getElem?_eq_some_iff.mp hkb).1) hd (fun H1 locs1 hP1 hD1 hS1 => ?_)
    refine hK _ _ _ _ hKK p l e s m args below meth c G cI cJ ad H1 locs1 ls hAt ?_ hS1 hl
    have e : (me_cc cI cJ ad ω).set k (ad k, .inr (a, (ks.mapIdx (me_fv ad (ω.1 k) (ω.2 k))).set b v)) = me_cc cI cJ ad ω' := by
      refine me_cc_set hk h1 h2 ?_
      rw [me_ce_ob ha, me_mapIdx_set hkb (hfv ad) (hfj ad)]
    rw [← e]
    exact hP1
  unfold me_pf at h
  split at h
  next v k r =>
    split at h
    next c0 ks hk =>
      split at h
      next hca =>
        rw [Bool.and_eq_true] at hca
        obtain rfl : c0 = a := eq_of_beq hca.1
        have hkb : ks[b]? = some 0 := eq_of_beq hca.2
        have e1 : ∀ i, i ≠ k → (ui ω k b v).1 i = ω.1 i := fun i hi => if_neg hi
        have e2 : (ui ω k b v).1 k = upd (ω.1 k) b v := if_pos rfl
        have e3 : ∀ ad, me_fv ad ((ui ω k b v).1 k) ((ui ω k b v).2 k) b 0 = .int v := fun ad => by rw [e2]; simp [me_fv, upd]
        have e4 : ∀ ad j z, j ≠ b → me_fv ad ((ui ω k b v).1 k) ((ui ω k b v).2 k) j z = me_fv ad (ω.1 k) (ω.2 k) j z := fun ad j z hj => by
          rw [e2]
          match z with
          | 0 => simp [me_fv, upd, hj]
          | 1 => rfl
          | n + 2 => rfl
        split at h
        next hten =>
          rw [if_pos hten] at hf2
          refine go k ks (.int v) r (ui ω k b v) 0 .boolean hk hkb (by rw [hf2]; decide +kernel) ?_ ?_ (fun _ => rfl) e1 (fun _ _ => rfl) e3 e4 h.2
          · rcases h.1 with rfl | rfl <;> decide +kernel
          · rcases h.1 with rfl | rfl <;> decide +kernel
        next hten =>
          rw [if_neg hten] at hf2
          by_cases hj : (c0 == 11 && b == 37) = true
          · exfalso
            rw [Bool.and_eq_true] at hj
            obtain rfl := eq_of_beq hj.1
            obtain rfl := eq_of_beq hj.2
            have hlk : ∀ q ∈ me_lay, q.1 = 11 → q.2[37]? = some 1 := by decide +kernel
            have := hlk _ (List.mem_of_getElem? hk) rfl
            rw [show (11, ks).2 = ks from rfl, hkb] at this
            cases this
          · rw [if_neg hj] at hf2
            exact go k ks (.int v) r (ui ω k b v) 0 .int hk hkb (by rw [hf2]; decide +kernel) rfl rfl (fun _ => rfl) e1 (fun _ _ => rfl) e3 e4 h
      next => exact h.elim
    next => exact h.elim
  next v k r =>
    split at h
    next c0 ks hk =>
      split at h
      next hca =>
        rw [Bool.and_eq_true] at hca
        obtain rfl : c0 = a := eq_of_beq hca.1
        have hkb : ks[b]? = some 1 := eq_of_beq hca.2
        have e1 : ∀ i, i ≠ k → (ul ω k b v).2 i = ω.2 i := fun i hi => if_neg hi
        have e2 : (ul ω k b v).2 k = vp_updL (ω.2 k) b v := if_pos rfl
        have hlk : ∀ q ∈ me_lay, q.1 < 12 → ∀ b < q.2.length, q.2[b]? = some 1 → q.1 = 11 ∧ b = 37 := by decide +kernel
        obtain ⟨z1, z2⟩ := hlk _ (List.mem_of_getElem? hk) ha b (List.getElem?_eq_some_iff.mp hkb).1 hkb
        have z1 : c0 = 11 := z1
        subst z1
        subst z2
        refine go k ks (.long v) r (ul ω k 37 v) 1 .long hk hkb (by rw [hf2]; decide +kernel) rfl rfl (fun _ => rfl) (fun _ _ => rfl) e1 (fun ad => by rw [e2]; simp [me_fv, vp_updL]) (fun ad j z hj => ?_) h
        rw [e2]
        match z with
        | 0 => rfl
        | 1 => simp [me_fv, vp_updL, hj]
        | n + 2 => rfl
      next => exact h.elim
    next => exact h.elim
  next => exact h.elim
end SNB
