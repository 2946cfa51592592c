section ALK
variable {p : Program} {l : Launch} {e : Env} {s : State} {m : MethodId} {args : Array Value} {below : List Frame} {meth : Method} {c : Code} {G : va_G} {cI cJ : ClassId} {base : Nat} {H : Heap} {locs : List Loc} {ls : Array Slot} {Qf : State → Prop} {R : Room} {y pc ce sl : Nat} {ws : List al_C} {rest : List Value}
/-- a new object, the next cell -/
theorem al_new (hAt : al_At y p s m args meth c G cI cJ) (hH : H.size = base + ws.length) (hP : va_P G vwCl (al_cc cI cJ base ws) H) (hS : va_S (fun q => base ≤ q) s.heap H locs) {i a : Nat} (hd : decode (me_mb y) pc = .ok (.new i, 3)) (ha : a < 12) (w1 : Cond.classLink (me_mn y).cls i (me_T a 0).1 ∈ me_GT) (w2 : Cond.instantiable (me_T a 0).1 (me_N a) ∈ me_GT) (hC : (vwCl[a]?).map (fun q => q.1) = some (me_T a 0).1)
    (hc : ce + 1 ≤ R.cells) (hs : sl + (al_df a).length ≤ R.slots)
    (kk : ∀ H1 : Heap, H1.size = base + (ws ++ [(Sum.inl (a, al_df a) : al_C)]).length → va_P G vwCl (al_cc cI cJ base (ws ++ [(Sum.inl (a, al_df a) : al_C)])) H1 → va_S (fun q => base ≤ q) s.heap H1 locs → W p l e R s m args below meth c H1 locs (ce + 1) (sl + (al_df a).length) Qf (F0 m (pc + 3) ls (.ref (base + ws.length) :: rest))) : W p l e R s m args below meth c H locs ce sl Qf (F0 m pc ls rest) := by
  obtain ⟨hx, hb, hr, hml, hown, hts, hlk, hE, hin⟩ := hAt
  obtain ⟨C, T, N, hcl, hT, hN⟩ := me_cls a ha
  obtain ⟨⟨ty, hty, hdf⟩, hlen, hmap⟩ := al_def a C T N hcl
  have hC2 : C = (me_T a 0).1 := by
    rw [hcl] at hC
    exact Option.some.inj hC
  rw [← hC2] at w1 w2
  rw [hN] at w2
  have hKn := hE.1.1 a _ hcl
  have hini : Cond.initialized C ∈ me_GT := al_w_obj.2.2.2.2 _ (List.mem_of_getElem? hcl)
  rw [hlen] at hs
  refine W.newcK hx hb hown (hts _ (List.mem_cons_of_mem _ w1)) (hts _ (List.mem_cons_of_mem _ w2)) (hts _ (List.mem_cons_of_mem _ hini)) rfl hd hc hs hKn.2.1 hH (fun H1 kC hkC e1 z1 o1 => ?_)
  have hk : ∀ (k : Nat) (x : Nat × va_E), (al_cc cI cJ base ws)[k]? = some x → H1[x.1]? = H[x.1]? := fun k x hx => o1 x.1 (by have := (hP k x hx).lt; omega)
  rw [hlen] at kk
  refine kk H1 (by rw [z1, List.length_append]; simp; omega) ?_ ⟨Nat.le_trans hS.1 (by omega), fun x h1 h2 => (o1 x (by have := hS.1; omega)).trans (hS.2.1 x h1 h2), hS.2.2⟩
  rw [al_push]
  refine (hP.kept hk).app (fun k x hx => ?_)
  have hz : k < 1 := (List.getElem?_eq_some_iff.mp hx).1
  rw [show k = 0 by omega] at hx
  cases hx
  show va_at G vwCl (base + ws.length, .inr (a, (al_df a).map (me_rn (fun i => base + i)))) H1
  rw [hmap]
  exact ⟨_, hcl, (u_born ty hts (fun w hw => List.mem_cons_of_mem _ (me_lays _ _ _ _ hcl w hw)) hKn hkC e1 hty).to hdf⟩
/-- a new row of ints -/
theorem al_newi (hAt : al_At y p s m args meth c G cI cJ) (hH : H.size = base + ws.length) (hP : va_P G vwCl (al_cc cI cJ base ws) H) (hS : va_S (fun q => base ≤ q) s.heap H locs) (hd : decode (me_mb y) pc = .ok (.newarray .int, 2)) {k : Int32} (hk0 : ¬ k < 0) (hk1 : k.toNatClampNeg ≤ 1000) (hc : ce + 1 ≤ R.cells) (hs : sl + k.toNatClampNeg ≤ R.slots)
    (kk : ∀ H1 : Heap, H1.size = base + (ws ++ [(Sum.inr (false, k.toNatClampNeg, fun _ => 0) : al_C)]).length → va_P G vwCl (al_cc cI cJ base (ws ++ [(Sum.inr (false, k.toNatClampNeg, fun _ => 0) : al_C)])) H1 → va_S (fun q => base ≤ q) s.heap H1 locs → W p l e R s m args below meth c H1 locs (ce + 1) (sl + k.toNatClampNeg) Qf (F0 m (pc + 2) ls (.ref (base + ws.length) :: rest))) : W p l e R s m args below meth c H locs ce sl Qf (F0 m pc ls (.int k :: rest)) := by
  obtain ⟨hx, hb, hr, hml, hown, hts, hlk, hE, hin⟩ := hAt
  refine va_newaK hx hb (atype := .int) (hts _ (List.mem_cons_of_mem _ al_w_obj.2.2.1)) rfl hd rfl hk0 rfl (by show k.toNatClampNeg * 4 ≤ _; omega) hc hs hH (fun H1 cA e1 z1 o1 hAr hNm => ?_)
  obtain rfl : cI = cA := Option.some.inj ((hE.1.2 0 _ rfl).2.symm.trans hNm)
  have hk : ∀ (k : Nat) (x : Nat × va_E), (al_cc cI cJ base ws)[k]? = some x → H1[x.1]? = H[x.1]? := fun k x hx => o1 x.1 (by have := (hP k x hx).lt; omega)
  refine kk H1 (by rw [z1, List.length_append]; simp; omega) ?_ ⟨Nat.le_trans hS.1 (by omega), fun x h1 h2 => (o1 x (by have := hS.1; omega)).trans (hS.2.1 x h1 h2), hS.2.2⟩
  rw [al_push]
  refine (hP.kept hk).app (fun k x hx => ?_)
  have hz : k < 1 := (List.getElem?_eq_some_iff.mp hx).1
  rw [show k = 0 by omega] at hx
  cases hx
  exact e1
theorem al_newj (hAt : al_At y p s m args meth c G cI cJ) (hH : H.size = base + ws.length) (hP : va_P G vwCl (al_cc cI cJ base ws) H) (hS : va_S (fun q => base ≤ q) s.heap H locs) (hd : decode (me_mb y) pc = .ok (.newarray .long, 2)) {k : Int32} (hk0 : ¬ k < 0) (hk1 : k.toNatClampNeg ≤ 1000) (hc : ce + 1 ≤ R.cells) (hs : sl + k.toNatClampNeg ≤ R.slots)
    (kk : ∀ H1 : Heap, H1.size = base + (ws ++ [(Sum.inr (true, k.toNatClampNeg, fun _ => 0) : al_C)]).length → va_P G vwCl (al_cc cI cJ base (ws ++ [(Sum.inr (true, k.toNatClampNeg, fun _ => 0) : al_C)])) H1 → va_S (fun q => base ≤ q) s.heap H1 locs → W p l e R s m args below meth c H1 locs (ce + 1) (sl + k.toNatClampNeg) Qf (F0 m (pc + 2) ls (.ref (base + ws.length) :: rest))) : W p l e R s m args below meth c H locs ce sl Qf (F0 m pc ls (.int k :: rest)) := by
  obtain ⟨hx, hb, hr, hml, hown, hts, hlk, hE, hin⟩ := hAt
  refine va_newaK hx hb (atype := .long) (hts _ (List.mem_cons_of_mem _ al_w_obj.2.2.2.1)) rfl hd rfl hk0 rfl (by show k.toNatClampNeg * 8 ≤ _; omega) hc hs hH (fun H1 cA e1 z1 o1 hAr hNm => ?_)
  obtain rfl : cJ = cA := Option.some.inj ((hE.1.2 1 _ rfl).2.symm.trans hNm)
  have hk : ∀ (k : Nat) (x : Nat × va_E), (al_cc cI cJ base ws)[k]? = some x → H1[x.1]? = H[x.1]? := fun k x hx => o1 x.1 (by have := (hP k x hx).lt; omega)
  refine kk H1 (by rw [z1, List.length_append]; simp; omega) ?_ ⟨Nat.le_trans hS.1 (by omega), fun x h1 h2 => (o1 x (by have := hS.1; omega)).trans (hS.2.1 x h1 h2), hS.2.2⟩
  rw [al_push]
  refine (hP.kept hk).app (fun k x hx => ?_)
  have hz : k < 1 := (List.getElem?_eq_some_iff.mp hx).1
  rw [show k = 0 by omega] at hx
  cases hx
  exact e1
end ALK
/-- a run ends where it was told to -/
theorem al_len : ∀ {n y tl ts pc : Nat} {L : List (Option Value)} {st : List Value} {ws ws' : List al_C}, al_run n y tl ts pc L st ws = some ws' → ws'.length = tl ∧ al_sz ws' = ts := by
  intro n
  induction n with
  | zero => intro y tl ts pc L st ws ws' h; cases h
  | succ n ih =>
    intro y tl ts pc L st ws ws' h
    unfold al_run at h
    repeat' (split at h)
    all_goals first
      | (cases h; done)
      | exact ih h
      | (rename_i hc; rw [Bool.and_eq_true] at hc; cases h; exact ⟨eq_of_beq hc.1, eq_of_beq hc.2⟩)
set_option maxHeartbeats 4000000 in
theorem al_ok : ∀ (n y tl ts pc : Nat) (L : List (Option Value)) (st : List Value) (ws ws' : List al_C), al_run n y tl ts pc L st ws = some ws' → al_W y tl ts pc L st ws ws' := by
  intro n
  induction n with
  | zero => intro y tl ts pc L st ws ws' h; cases h
  | succ n ih =>
    intro y tl ts pc L st ws ws' h
    unfold al_run at h
    split at h
    next => cases h
    next e0 he =>
      obtain ⟨hck, hpc⟩ := al_ckd he
      obtain ⟨pc0, ins, a, b, j, z⟩ := e0
      have hpc : pc0 = pc := hpc
      subst hpc
      unfold al_ck at hck
      rw [Bool.and_eq_true, Bool.and_eq_true] at hck
      obtain ⟨⟨hnm, hdc⟩, hck⟩ := hck
      have hnm : (me_mn y).name = "<init>" := eq_of_beq hnm
      have hd := al_dc_ok hdc
      intro p l e s m args below meth c G cI cJ base H locs ls len0 sz0 hAt hH hP hS hbs hl q1 q2 q3 q4
      obtain ⟨hx, hb, hr, hml, hown, hts, hlk, hE, hin⟩ := id hAt
      dsimp only at h hck hd
      split at h
      next i =>
        split at h
        next k hv => exact lv_aload_n hx hb hd rfl (hl.get hv) (ih _ _ _ _ _ _ _ _ h p l e s m args below meth c G cI cJ base H locs ls len0 sz0 hAt hH hP hS hbs hl q1 q2 q3 q4)
        next => cases h
      next i =>
        split at h
        next k hv => exact lv_iload_n hx hb hd rfl (hl.get hv) (ih _ _ _ _ _ _ _ _ h p l e s m args below meth c G cI cJ base H locs ls len0 sz0 hAt hH hP hS hbs hl q1 q2 q3 q4)
        next => cases h
      next i v r => exact lv_istore_n hx hb hd rfl hl (of_decide_eq_true hck) rfl (fun ls' hl' => ih _ _ _ _ _ _ _ _ h p l e s m args below meth c G cI cJ base H locs ls' len0 sz0 hAt hH hP hS hbs (me_lv.s1 (v := .int v) hl') q1 q2 q3 q4)
      next i zz =>
        split at h
        next k hv =>
          have hm : (i, Value.int k) ∈ (me_ll 0 L).map fun q => (q.1, me_rn (fun i => base + i) q.2) := List.mem_map.mpr ⟨(i, .int k), (me_ll_mem _ _ _ _).mpr ⟨i, by omega, hv⟩, rfl⟩
          obtain ⟨kk, hk⟩ := List.getElem?_of_mem hm
          exact lv_iinc hx hb hd hl hk rfl (of_decide_eq_true hck) rfl (fun ls' hl' => ih _ _ _ _ _ _ _ _ h p l e s m args below meth c G cI cJ base H locs ls' len0 sz0 hAt hH hP hS hbs (me_lv.s1 (v := .int (k + Int32.ofInt zz)) hl') q1 q2 q3 q4)
        next => cases h
      next zz => exact lv_iconst hx hb hd rfl (ih _ _ _ _ _ _ _ _ h p l e s m args below meth c G cI cJ base H locs ls len0 sz0 hAt hH hP hS hbs hl q1 q2 q3 q4)
      next zz => exact lv_bipush hx hb hd rfl (ih _ _ _ _ _ _ _ _ h p l e s m args below meth c G cI cJ base H locs ls len0 sz0 hAt hH hP hS hbs hl q1 q2 q3 q4)
      next zz => exact lv_sipush hx hb hd rfl (ih _ _ _ _ _ _ _ _ h p l e s m args below meth c G cI cJ base H locs ls len0 sz0 hAt hH hP hS hbs hl q1 q2 q3 q4)
      next o => exact lv_goto hx hb hd (me_tg_ok (of_decide_eq_true hck)) (ih _ _ _ _ _ _ _ _ h p l e s m args below meth c G cI cJ base H locs ls len0 sz0 hAt hH hP hS hbs hl q1 q2 q3 q4)
      next o b2 a2 r =>
        refine lv_icmp_ge hx hb hd (me_tg_ok (of_decide_eq_true hck)) (fun c1 => ?_) (fun c1 => ?_)
        · rw [if_pos c1] at h
          exact ih _ _ _ _ _ _ _ _ h p l e s m args below meth c G cI cJ base H locs ls len0 sz0 hAt hH hP hS hbs hl q1 q2 q3 q4
        · rw [if_neg c1] at h
          exact ih _ _ _ _ _ _ _ _ h p l e s m args below meth c G cI cJ base H locs ls len0 sz0 hAt hH hP hS hbs hl q1 q2 q3 q4
      next k r => exact lv_dup hx hb hd rfl (ih _ _ _ _ _ _ _ _ h p l e s m args below meth c G cI cJ base H locs ls len0 sz0 hAt hH hP hS hbs hl q1 q2 q3 q4)
      next i =>
        split at h
        next hc =>
          rw [Bool.and_eq_true] at hc
          have c1 : ws.length + 1 ≤ tl := Nat.le_of_ble_eq_true hc.1
          have c2 : al_sz ws + (al_df a).length ≤ ts := Nat.le_of_ble_eq_true hc.2
          simp only [Bool.and_eq_true, decide_eq_true_eq] at hck
          obtain ⟨⟨⟨k1, k2⟩, k3⟩, k4⟩ := hck
          refine al_new hAt hH hP hS hd k1 (me_wd_in k2) (me_wd_in k3) k4 (by show _ ≤ (al_m y).1; omega) (by show _ ≤ (al_m y).2; omega) (fun H1 hH1 hP1 hS1 => ?_)
          have := ih _ _ _ _ _ _ _ _ h p l e s m args below meth c G cI cJ base H1 locs ls len0 sz0 hAt hH1 hP1 hS1 hbs hl (by simp; omega) (by rw [al_sz_push]; omega) q3 q4
          rw [show (ws ++ [(Sum.inl (a, al_df a) : al_C)]).length - len0 = ws.length - len0 + 1 by simp; omega, al_sz_push, show al_sz ws + al_sl (.inl (a, al_df a)) - sz0 = al_sz ws - sz0 + (al_df a).length by show al_sz ws + (al_df a).length - sz0 = _; omega] at this
          exact this
        next => cases h
      next k r =>
        split at h
        next hc =>
          simp only [Bool.and_eq_true, Bool.not_eq_true', decide_eq_false_iff_not] at hc
          obtain ⟨k1, k2, k3, k4⟩ := hc
          have c1 : ws.length + 1 ≤ tl := Nat.le_of_ble_eq_true k1
          have c2 : al_sz ws + k.toNatClampNeg ≤ ts := Nat.le_of_ble_eq_true k2
          refine al_newi hAt hH hP hS hd k4 (Nat.le_of_ble_eq_true k3) (by show _ ≤ (al_m y).1; omega) (by show _ ≤ (al_m y).2; omega) (fun H1 hH1 hP1 hS1 => ?_)
          have := ih _ _ _ _ _ _ _ _ h p l e s m args below meth c G cI cJ base H1 locs ls len0 sz0 hAt hH1 hP1 hS1 hbs hl (by simp; omega) (by rw [al_sz_push]; omega) q3 q4
          rw [show (ws ++ [(Sum.inr (false, k.toNatClampNeg, fun _ => 0) : al_C)]).length - len0 = ws.length - len0 + 1 by simp; omega, al_sz_push, show al_sz ws + al_sl (.inr (false, k.toNatClampNeg, fun _ => 0)) - sz0 = al_sz ws - sz0 + k.toNatClampNeg by show al_sz ws + k.toNatClampNeg - sz0 = _; omega] at this
          exact this
        next => cases h
      next k r =>
        split at h
        next hc =>
          simp only [Bool.and_eq_true, Bool.not_eq_true', decide_eq_false_iff_not] at hc
          obtain ⟨k1, k2, k3, k4⟩ := hc
          have c1 : ws.length + 1 ≤ tl := Nat.le_of_ble_eq_true k1
          have c2 : al_sz ws + k.toNatClampNeg ≤ ts := Nat.le_of_ble_eq_true k2
          refine al_newj hAt hH hP hS hd k4 (Nat.le_of_ble_eq_true k3) (by show _ ≤ (al_m y).1; omega) (by show _ ≤ (al_m y).2; omega) (fun H1 hH1 hP1 hS1 => ?_)
          have := ih _ _ _ _ _ _ _ _ h p l e s m args below meth c G cI cJ base H1 locs ls len0 sz0 hAt hH1 hP1 hS1 hbs hl (by simp; omega) (by rw [al_sz_push]; omega) q3 q4
          rw [show (ws ++ [(Sum.inr (true, k.toNatClampNeg, fun _ => 0) : al_C)]).length - len0 = ws.length - len0 + 1 by simp; omega, al_sz_push, show al_sz ws + al_sl (.inr (true, k.toNatClampNeg, fun _ => 0)) - sz0 = al_sz ws - sz0 + k.toNatClampNeg by show al_sz ws + k.toNatClampNeg - sz0 = _; omega] at this
          exact this
        next => cases h
      next i k r =>
        split at h
        next ci fs hk =>
          split at h
          next hci =>
            obtain rfl : ci = a := eq_of_beq hci
            split at h
            next q hq =>
              simp only [Bool.and_eq_true, decide_eq_true_eq] at hck
              obtain ⟨⟨k1, k2⟩, k3⟩ := hck
              obtain ⟨C, T, N, hc, hT, hN⟩ := me_cls ci k1
              rw [hN] at k2
              have hw := me_wd_in k3
              rw [hT b] at hw
              refine va_get hx hb hts (fun w hw' => List.mem_cons_of_mem _ (me_lays _ _ _ _ hc w hw')) hown hE.1 hP k (al_at hk) hc b k2 (hts _ (List.mem_cons_of_mem _ hw)) (fun _ h9 => h9) (v := .ref (base + q)) (by rw [List.getElem?_map, hq]; rfl) hd (ih _ _ _ _ _ _ _ _ h p l e s m args below meth c G cI cJ base H locs ls len0 sz0 hAt hH hP hS hbs hl q1 q2 q3 q4)
            next => cases h
          next => cases h
        next => cases h
      next i v k r =>
        split at h
        next ci fs hk =>
          split at h
          next hci =>
            simp only [Bool.and_eq_true] at hci
            obtain ⟨hci, hbl, hfin⟩ := hci
            obtain rfl : ci = a := eq_of_beq hci
            have hbl : b + 1 ≤ fs.length := Nat.le_of_ble_eq_true hbl
            have hck : (decide (ci < 12) && decide (b < me_N ci) && me_wd j (.fieldLink (me_mn y).cls i (me_T ci b).1 (me_T ci b).2.1 (me_T ci b).2.2.1) && (if (me_T ci b).2.2.2 then decide ((me_T ci b).1 = (me_mn y).cls) && (match parseFieldDescriptor (me_T ci b).2.2.1 with
              | some (.array _) => true
              | some (.object _) => true
              | _ => false) else decide ((me_T ci b).2.2.1 = "I"))) = true := hck
            rw [if_pos hfin] at hck
            simp only [Bool.and_eq_true, decide_eq_true_eq] at hck
            obtain ⟨⟨⟨k1, k2⟩, k3⟩, k4, k5⟩ := hck
            obtain ⟨C, T, N, hc, hT, hN⟩ := me_cls ci k1
            obtain ⟨hnm2, ty0, hty⟩ := me_names ci C T N hc
            rw [hN] at k2
            have hw := me_wd_in k3
            rw [hT b] at hw k4 k5 hfin
            have hpt := hty b k2
            rw [hpt] at k5
            have hnf : ∀ x : Nat, narrow (ty0 b) (.ref x) = .ref x ∧ fits (ty0 b) (.ref x) = true := by
              intro x
              generalize ty0 b = tt at k5
              split at k5
              next t2 he => cases he; exact ⟨rfl, rfl⟩
              next t2 he => cases he; exact ⟨rfl, rfl⟩
              next => cases k5
            refine va_putF hx hb hts (fun w hw' => List.mem_cons_of_mem _ (me_lays _ _ _ _ hc w hw')) ty0 hty hnm2 hown hE.1 hP al_D hS k (al_at hk) hc b k2 (hts _ (List.mem_cons_of_mem _ hw)) (fun _ h9 => h9) hfin (hin.trans hnm) k4 hpt (hnf _).1 (hnf _).2 (by show b < (fs.map _).length; rw [List.length_map]; omega) hd (fun H1 locs1 hP1 hD1 hS1 => ?_)
            have e1 : (al_cc cI cJ base ws).set k (base + k, .inr (ci, (fs.map (me_rn (fun i => base + i))).set b (.ref (base + v)))) = al_cc cI cJ base (ws.set k (.inl (ci, fs.set b (.ref v)))) := by
              rw [← al_set]
              show _ = (al_cc cI cJ base ws).set k (base + k, .inr (ci, (fs.set b (.ref v)).map (me_rn (fun i => base + i))))
              rw [List.map_set]
              rfl
            have hP1 : va_P G vwCl (al_cc cI cJ base (ws.set k (.inl (ci, fs.set b (.ref v))))) H1 := by rw [← e1]; exact hP1
            have hsz : al_sz (ws.set k (.inl (ci, fs.set b (.ref v)))) = al_sz ws := al_sz_set hk (by show (fs.set b (.ref v)).length = fs.length; rw [List.length_set])
            have hkl : k < ws.length := (List.getElem?_eq_some_iff.mp hk).1
            have hpos : 0 < ws.length := Nat.lt_of_le_of_lt (Nat.zero_le _) hkl
            rw [← hsz, ← List.length_set (as := ws) (i := k) (a := Sum.inl (ci, fs.set b (.ref v)))]
            exact al_szd hP1 (by rw [List.length_set]; exact hpos) hbs (by rw [List.length_set]; exact q1) (fun hH1 => ih _ _ _ _ _ _ _ _ h p l e s m args below meth c G cI cJ base H1 locs1 ls len0 sz0 hAt hH1 hP1 hS1 hbs hl (by rw [List.length_set]; exact q1) (by rw [hsz]; exact q2) q3 q4)
          next => cases h
        next => cases h
      next i v k r =>
        split at h
        next ci fs hk =>
          split at h
          next hci =>
            simp only [Bool.and_eq_true, Bool.not_eq_true'] at hci
            obtain ⟨hci, hbl, hfin⟩ := hci
            obtain rfl : ci = a := eq_of_beq hci
            have hbl : b + 1 ≤ fs.length := Nat.le_of_ble_eq_true hbl
            have hck : (decide (ci < 12) && decide (b < me_N ci) && me_wd j (.fieldLink (me_mn y).cls i (me_T ci b).1 (me_T ci b).2.1 (me_T ci b).2.2.1) && (if (me_T ci b).2.2.2 then decide ((me_T ci b).1 = (me_mn y).cls) && (match parseFieldDescriptor (me_T ci b).2.2.1 with
              | some (.array _) => true
              | some (.object _) => true
              | _ => false) else decide ((me_T ci b).2.2.1 = "I"))) = true := hck
            rw [if_neg (by rw [hfin]; decide)] at hck
            simp only [Bool.and_eq_true, decide_eq_true_eq] at hck
            obtain ⟨⟨⟨k1, k2⟩, k3⟩, k4⟩ := hck
            obtain ⟨C, T, N, hc, hT, hN⟩ := me_cls ci k1
            obtain ⟨hnm2, ty0, hty⟩ := me_names ci C T N hc
            rw [hN] at k2
            have hw := me_wd_in k3
            rw [hT b] at hw k4 hfin
            refine va_put hx hb hts (fun w hw' => List.mem_cons_of_mem _ (me_lays _ _ _ _ hc w hw')) ty0 hty hnm2 hown hE.1 hP al_D hS k (al_at hk) hc b k2 (hts _ (List.mem_cons_of_mem _ hw)) (fun _ h9 => h9) hfin (ty := .int) (v := .int v) (by rw [k4]; decide +kernel) rfl rfl (by show b < (fs.map _).length; rw [List.length_map]; omega) hd (fun H1 locs1 hP1 hD1 hS1 => ?_)
            have e1 : (al_cc cI cJ base ws).set k (base + k, .inr (ci, (fs.map (me_rn (fun i => base + i))).set b (.int v))) = al_cc cI cJ base (ws.set k (.inl (ci, fs.set b (.int v)))) := by
              rw [← al_set]
              show _ = (al_cc cI cJ base ws).set k (base + k, .inr (ci, (fs.set b (.int v)).map (me_rn (fun i => base + i))))
              rw [List.map_set]
              rfl
            have hP1 : va_P G vwCl (al_cc cI cJ base (ws.set k (.inl (ci, fs.set b (.int v))))) H1 := by rw [← e1]; exact hP1
            have hsz : al_sz (ws.set k (.inl (ci, fs.set b (.int v)))) = al_sz ws := al_sz_set hk (by show (fs.set b (.int v)).length = fs.length; rw [List.length_set])
            have hkl : k < ws.length := (List.getElem?_eq_some_iff.mp hk).1
            have hpos : 0 < ws.length := Nat.lt_of_le_of_lt (Nat.zero_le _) hkl
            rw [← hsz, ← List.length_set (as := ws) (i := k) (a := Sum.inl (ci, fs.set b (.int v)))]
            exact al_szd hP1 (by rw [List.length_set]; exact hpos) hbs (by rw [List.length_set]; exact q1) (fun hH1 => ih _ _ _ _ _ _ _ _ h p l e s m args below meth c G cI cJ base H1 locs1 ls len0 sz0 hAt hH1 hP1 hS1 hbs hl (by rw [List.length_set]; exact q1) (by rw [hsz]; exact q2) q3 q4)
          next => cases h
        next => cases h
      next x i k r =>
        split at h
        next N f hk =>
          split at h
          next hc =>
            simp only [Bool.and_eq_true, Bool.not_eq_true', decide_eq_false_iff_not] at hc
            have hc1 : i.toNatClampNeg + 1 ≤ N := Nat.le_of_ble_eq_true hc.1
            refine va_iast hx hb hE.1 hP al_D hS k 0 (al_at hk) rfl (fun q => q.elim hc.2 (fun q => by omega)) hd (fun H1 locs1 hP1 hD1 hS1 => ?_)
            have e1 : (al_cc cI cJ base ws).set k (base + k, .inl (cI, N, .inl (upd f i.toNatClampNeg x))) = al_cc cI cJ base (ws.set k (.inr (false, N, upd f i.toNatClampNeg x))) := by
              rw [← al_set]
              rfl
            have hP1 : va_P G vwCl (al_cc cI cJ base (ws.set k (.inr (false, N, upd f i.toNatClampNeg x)))) H1 := by rw [← e1]; exact hP1
            have hsz : al_sz (ws.set k (.inr (false, N, upd f i.toNatClampNeg x))) = al_sz ws := al_sz_set hk rfl
            have hkl : k < ws.length := (List.getElem?_eq_some_iff.mp hk).1
            have hpos : 0 < ws.length := Nat.lt_of_le_of_lt (Nat.zero_le _) hkl
            rw [← hsz, ← List.length_set (as := ws) (i := k) (a := Sum.inr (false, N, upd f i.toNatClampNeg x))]
            exact al_szd hP1 (by rw [List.length_set]; exact hpos) hbs (by rw [List.length_set]; exact q1) (fun hH1 => ih _ _ _ _ _ _ _ _ h p l e s m args below meth c G cI cJ base H1 locs1 ls len0 sz0 hAt hH1 hP1 hS1 hbs hl (by rw [List.length_set]; exact q1) (by rw [hsz]; exact q2) q3 q4)
          next => cases h
        next => cases h
      next i k r =>
        split at h
        next h8 =>
          have h8 : (r.map fun v => v.category).sum ≤ 8 := Nat.le_of_ble_eq_true h8
          have h8' : ((r.map (me_rn (fun i => base + i))).map fun v => v.category).sum ≤ 8 := by rw [me_rn_sum]; exact h8
          have hck : (if b == 9 then me_wd j (.methodLink (me_mn y).cls i objectInit) && decide (1 ≤ (al_f y).1) && decide (20 ≤ (al_f y).2)
            else decide (a < 185) && al_rmk y a && decide (lw_tbl[j]? = some (.methodLinkNest (me_mn y).cls i (me_mn a) "WokenOnce")) && me_wd (me_mj a).2.2.2.1 (.instanceMethod (me_mn a)) && (me_mn a).name == "<init>" && decide (me_mp a = 0) && decide (me_mr a = none) && decide (1 ≤ me_mL a)) = true := hck
          split at h
          next hb9 =>
            rw [if_pos hb9] at hck
            simp only [Bool.and_eq_true, decide_eq_true_eq] at hck
            obtain ⟨⟨k1, k2⟩, k3⟩ := hck
            refine W.objInit hx hb hown (hts _ (List.mem_cons_of_mem _ (me_wd_in k1))) (hts _ (List.mem_cons_of_mem _ al_w_obj.1)) (hts _ (List.mem_cons_of_mem _ al_w_obj.2.1)) rfl (by rw [hml]; exact hl.1) rfl hd k2 ?_ (ih _ _ _ _ _ _ _ _ h p l e s m args below meth c G cI cJ base H locs ls len0 sz0 hAt hH hP hS hbs hl q1 q2 q3 q4)
            show 2 * 0 + _ + 12 ≤ (al_f y).2
            omega
          next hb9 =>
            rw [if_neg hb9] at hck
            split at h
            next hc =>
              rw [Bool.and_eq_true] at hc
              have c1 : ws.length + (al_m a).1 ≤ tl := Nat.le_of_ble_eq_true hc.1
              have c2 : al_sz ws + (al_m a).2 ≤ ts := Nat.le_of_ble_eq_true hc.2
              split at h
              next ws1 hr1 =>
                simp only [Bool.and_eq_true, decide_eq_true_eq, beq_iff_eq] at hck
                obtain ⟨⟨⟨⟨⟨⟨⟨k1, k2⟩, k3⟩, k4⟩, k5⟩, k6⟩, k7⟩, k8⟩ := hck
                have hM := al_entry k1 k8 (ih _ _ _ _ _ _ _ _ hr1) l G cI cJ base
                obtain ⟨g1, g2, g3, g4, g5, g6⟩ := me_cm_in (me_cms a k1)
                have hrm : (al_rm a).frames + 1 ≤ (al_rm y).frames ∧ 8 + (me_mL a + 11) + (al_rm a).locals ≤ (al_rm y).locals := by
                  unfold al_rmk at k2
                  simp only [Bool.and_eq_true, decide_eq_true_eq] at k2
                  exact k2
                have hlen1 := al_len hr1
                rw [k6] at g4
                refine al_call (va_runIN (As := []) (rest := r.map (me_rn (fun i => base + i))) ⟨hx, hb, hml, hown, hts⟩ hM ⟨va_cnB (host := "WokenOnce") (ret := none) 0 hts (me_good y g1) (by rw [← k7]; rfl) rfl rfl (hE.2 _ (List.mem_filter.mpr ⟨List.mem_of_getElem? k3, rfl⟩)) (hts _ (List.mem_cons_of_mem _ g2)) ⟨g5, g6, g4⟩ hrm, k5, hts _ (List.mem_cons_of_mem _ (me_wd_in k4))⟩ ⟨al_blind _ _ _ _ _ _, fun U hU hW => ⟨rfl, by rw [hU]; exact hH, by rw [hU]; exact hP, va_K.moved hW.alike hE.1, hE.2.warm hW⟩⟩ rfl rfl hl.1 rfl (lv_room h8') hd ⟨?_, ?_⟩) hS (fun H1 locs1 hH1 hP1 hS1 => ?_)
                · show _ ≤ (al_m y).1
                  omega
                · show _ ≤ (al_m y).2
                  omega
                · have := ih _ _ _ _ _ _ _ _ h p l e s m args below meth c G cI cJ base H1 locs1 ls len0 sz0 hAt hH1 hP1 hS1 hbs hl (by omega) (by omega) q3 q4
                  rw [show ws1.length - len0 = ws.length - len0 + (al_m a).1 by omega, show al_sz ws1 - sz0 = al_sz ws - sz0 + (al_m a).2 by omega] at this
                  exact this
              next => cases h
            next => cases h
        next => cases h
      next =>
        split at h
        next hc =>
          rw [Bool.and_eq_true] at hc
          cases h
          have c1 : ws.length = tl := eq_of_beq hc.1
          have c2 : al_sz ws = ts := eq_of_beq hc.2
          have hr2 : meth.sig.returnType = none := hr.trans (of_decide_eq_true hck)
          rw [show ws.length - len0 = (al_m y).1 by omega, show al_sz ws - sz0 = (al_m y).2 by omega]
          exact W.vret hx hb hr2 (fun t ht hW => ⟨⟨rfl, by rw [ht]; exact hH, by rw [ht]; exact hP⟩, hS.F ht⟩) hS.2.2 hd hlk
        next => cases h
      next => cases h
