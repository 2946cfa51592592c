/-- a new object, in the law -/
theorem lw_new {p : Program} {l : Launch} {e : Env} {s : State} {m : MethodId} {args : Array Value} {below : List Frame} {meth : Method} {c : Code} {G : va_G} {cI cJ : ClassId} {base : Nat} {H : Heap} {locs : List Loc} {ls : Array Slot} {Qf : State → Prop} {R : Room} {pc ce sl : Nat} {ws : List al_C} {rest : List Value}
    (hx : p.tables.exec = Jvm.exec) (hb : c.code = code) (hown : s.vm.findClass R_law = some m.cls) (hts : ∀ w ∈ lw_tbl, w.before args s = true) (hKK : va_K G vwCl (me_ty cI cJ) s) (hH : H.size = base + ws.length) (hP : va_P G vwCl (al_cc cI cJ base ws) H) (hS : va_S (fun q => base ≤ q) s.heap H locs) {i a : Nat} (hd : decode code pc = .ok (.new i, 3)) (ha : a < 12) (w1 : Cond.classLink R_law i (me_T a 0).1 ∈ lw_tbl) (w2 : Cond.instantiable (me_T a 0).1 (me_N a) ∈ lw_tbl) (hC : (vwCl[a]?).map (fun q => q.1) = some (me_T a 0).1)
    (hc : ce + 1 ≤ R.cells) (hs : sl + (al_df a).length ≤ R.slots)
    (kk : ∀ H1 : Heap, H1.size = base + (ws ++ [(Sum.inl (a, al_df a) : al_C)]).length → va_P G vwCl (al_cc cI cJ base (ws ++ [(Sum.inl (a, al_df a) : al_C)])) H1 → va_S (fun q => base ≤ q) s.heap H1 locs → W p l e R s m args below meth c H1 locs (ce + 1) (sl + (al_df a).length) Qf (F0 m (pc + 3) ls (.ref (base + ws.length) :: rest))) : W p l e R s m args below meth c H locs ce sl Qf (F0 m pc ls rest) := by
  obtain ⟨C, T, N, hcl, hT, hN⟩ := me_cls a ha
  obtain ⟨⟨ty, hty, hdf⟩, hlen, hmap⟩ := al_def a C T N hcl
  have hC2 : C = (me_T a 0).1 := by
    rw [hcl] at hC
    exact Option.some.inj hC
  rw [← hC2] at w1 w2
  rw [hN] at w2
  have hKn := hKK.1 a _ hcl
  have hini : Cond.initialized C ∈ me_GT := al_w_obj.2.2.2.2 _ (List.mem_of_getElem? hcl)
  rw [hlen] at hs
  refine W.newcK hx hb hown (hts _ w1) (hts _ w2) (hts _ (List.mem_filter.mp hini).1) rfl hd hc hs hKn.2.1 hH (fun H1 kC hkC e1 z1 o1 => ?_)
  have hk : ∀ (k : Nat) (x : Nat × va_E), (al_cc cI cJ base ws)[k]? = some x → H1[x.1]? = H[x.1]? := fun k x hx => o1 x.1 (by have := (hP k x hx).lt; omega)
  rw [hlen] at kk
  refine kk H1 (by rw [z1, List.length_append]; simp; omega) ?_ ⟨Nat.le_trans hS.1 (by omega), fun x h1 h2 => (o1 x (by have := hS.1; omega)).trans (hS.2.1 x h1 h2), hS.2.2⟩
  rw [al_push]
  refine (hP.kept hk).app (fun k x hx => ?_)
  have hz : k < 1 := (List.getElem?_eq_some_iff.mp hx).1
  rw [show k = 0 by omega] at hx
  cases hx
  show va_at G vwCl (base + ws.length, .inr (a, (al_df a).map (me_rn (fun i => base + i)))) H1
  rw [hmap]
  exact ⟨_, hcl, (u_born ty hts (fun w hw => (List.mem_filter.mp (me_lays _ _ _ _ hcl w hw)).1) hKn hkC e1 hty).to hdf⟩
theorem lw_init {p : Program} {l : Launch} {e : Env} {s : State} {m : MethodId} {b : Nat} {below : List Frame} {meth : Method} {c : Code} {G : va_G} {cI cJ : ClassId} {base : Nat} {H : Heap} {locs : List Loc} {ls : Array Slot} {Qf : State → Prop} {pc ce sl i z k : Nat} {ws ws1 : List al_C} {rest : List Value}
    (hx : p.tables.exec = Jvm.exec) (hb : c.code = code) (hml : c.maxLocals = 4) (hown : s.vm.findClass R_law = some m.cls) (hts : ∀ w ∈ lw_tbl, w.before #[Value.ref b] s = true) (hE : al_En G cI cJ s) (hH : H.size = base + ws.length) (hP : va_P G vwCl (al_cc cI cJ base ws) H) (hS : va_S (fun q => base ≤ q) s.heap H locs) (hCt : al_Ct z k ws ws1) (hd : decode code pc = .ok (.invokespecial i, 3)) (hz : z < 185) (w1 : Cond.methodLink R_law i (me_mn z) ∈ lw_tbl) (w2 : Cond.instanceMethod (me_mn z) ∈ lw_tbl) (hnm : (me_mn z).name = "<init>") (hmp : me_mp z = 0) (hmr : me_mr z = none) (hroom : (al_rm z).frames + 1 ≤ room_1.frames ∧ 8 + (me_mL z + 11) + (al_rm z).locals ≤ room_1.locals) (h8 : (rest.map fun v => v.category).sum ≤ 8) (hls : ls.size = 4) (hc : ce + (al_m z).1 ≤ room_1.cells) (hs : sl + (al_m z).2 ≤ room_1.slots)
    (kk : ∀ (H1 : Heap) (locs1 : List Loc), H1.size = base + ws1.length → va_P G vwCl (al_cc cI cJ base ws1) H1 → va_S (fun q => base ≤ q) s.heap H1 locs1 → W p l e room_1 s m #[Value.ref b] below meth c H1 locs1 (ce + (al_m z).1) (sl + (al_m z).2) Qf (F0 m (pc + 3) ls rest)) : W p l e room_1 s m #[Value.ref b] below meth c H locs ce sl Qf (F0 m pc ls (.ref (base + k) :: rest)) := by
  obtain ⟨g1, g2, g3, g4, g5, g6⟩ := me_cm_in (me_cms z hz)
  rw [hmp] at g4
  exact al_call (va_runI (As := []) (rest := rest) ⟨hx, hb, hml, hown, hts⟩ (hCt l G cI cJ base) (cwI 0 hts (lw_good g1) (by rw [← hmr]; rfl) rfl rfl (hts _ (List.mem_filter.mp g2).1) (hts _ w1) (hts _ w2) hnm ⟨g5, g6, g4⟩ hroom) ⟨al_blind _ _ _ _ _ _, fun U hU hW => ⟨rfl, by rw [hU]; exact hH, by rw [hU]; exact hP, va_K.moved hW.alike hE.1, hE.2.warm hW⟩⟩ rfl rfl hls rfl (lv_room h8) hd ⟨hc, hs⟩) hS kk
theorem lw_ins : ∀ q ∈ vwCl, Cond.instantiable q.1 q.2.2 ∈ lw_tbl := by decide +kernel
theorem lw_w0 : Cond.classLink R_law 7 (me_T 10 0).1 ∈ lw_tbl ∧ Cond.instantiable (me_T 10 0).1 (me_N 10) ∈ lw_tbl ∧ Cond.methodLink R_law 9 (me_mn 63) ∈ lw_tbl ∧ Cond.instanceMethod (me_mn 63) ∈ lw_tbl ∧ Cond.classLink R_law 10 (me_T 11 0).1 ∈ lw_tbl ∧ Cond.instantiable (me_T 11 0).1 (me_N 11) ∈ lw_tbl ∧ Cond.methodLink R_law 12 (me_mn 122) ∈ lw_tbl ∧ Cond.instanceMethod (me_mn 122) ∈ lw_tbl := by decide +kernel
theorem lw_w1 : Cond.laysStatic "WokenOnce" "POWERS_OF_TEN" "[J" ∈ lw_tbl ∧ Cond.laysStatic "WokenOnce" "POWERS_OF_FIVE" "[I" ∈ lw_tbl ∧ Cond.initialized "WokenOnce" ∈ lw_tbl ∧ Cond.arrayClass .int ∈ lw_tbl ∧ Cond.arrayClass .long ∈ lw_tbl := by decide +kernel
/-- the two rows of constants -/
theorem lw_stat {s : State} {b : Nat} (hts : ∀ w ∈ lw_tbl, w.before #[Value.ref b] s = true) (hgv : (Jvm.Cond.and given_1 narrow_1).before #[Value.ref b] s = true) : ∃ t10 t5 : Nat, ∀ A : Nat → Prop, (∀ a, a < s.heap.size → ¬ A a) → va_Z "WokenOnce" "POWERS_OF_TEN" "[J" (.ref t10) A s s.heap ∧ va_T .long t10 7 me_ten A s s.heap ∧ va_Z "WokenOnce" "POWERS_OF_FIVE" "[I" (.ref t5) A s s.heap ∧ va_T .int t5 7 me_five A s s.heap := by
  have hs := flat_of_before _ hgv
  have l1 : (Term.length (.static "WokenOnce" "POWERS_OF_TEN" "[J")).eval #[Value.ref b] s none [] s = some (.int (Int32.ofNat 7)) := va_eqt (hs (.eq (.length (.static "WokenOnce" "POWERS_OF_TEN" "[J")) (.int 7)) (by decide +kernel))
  have l2 : (Term.length (.static "WokenOnce" "POWERS_OF_FIVE" "[I")).eval #[Value.ref b] s none [] s = some (.int (Int32.ofNat 7)) := va_eqt (hs (.eq (.length (.static "WokenOnce" "POWERS_OF_FIVE" "[I")) (.int 7)) (by decide +kernel))
  have e1 : ∀ j : Nat, j < 7 → (Term.elem (.static "WokenOnce" "POWERS_OF_TEN" "[J") (.int (Int32.ofNat j))).eval #[Value.ref b] s none [] s = some (me_ten j) := by
    intro j hj
    match j, hj with
    | 0, _ => exact va_eqtl (hs (.eq (.elem (.static "WokenOnce" "POWERS_OF_TEN" "[J") (.int 0)) (.long 1)) (by decide +kernel))
    | 1, _ => exact va_eqtl (hs (.eq (.elem (.static "WokenOnce" "POWERS_OF_TEN" "[J") (.int 1)) (.long 10)) (by decide +kernel))
    | 2, _ => exact va_eqtl (hs (.eq (.elem (.static "WokenOnce" "POWERS_OF_TEN" "[J") (.int 2)) (.long 100)) (by decide +kernel))
    | 3, _ => exact va_eqtl (hs (.eq (.elem (.static "WokenOnce" "POWERS_OF_TEN" "[J") (.int 3)) (.long 1000)) (by decide +kernel))
    | 4, _ => exact va_eqtl (hs (.eq (.elem (.static "WokenOnce" "POWERS_OF_TEN" "[J") (.int 4)) (.long 10000)) (by decide +kernel))
    | 5, _ => exact va_eqtl (hs (.eq (.elem (.static "WokenOnce" "POWERS_OF_TEN" "[J") (.int 5)) (.long 100000)) (by decide +kernel))
    | 6, _ => exact va_eqtl (hs (.eq (.elem (.static "WokenOnce" "POWERS_OF_TEN" "[J") (.int 6)) (.long 1000000)) (by decide +kernel))
    | n + 7, h => exact absurd h (by omega)
  have e2 : ∀ j : Nat, j < 7 → (Term.elem (.static "WokenOnce" "POWERS_OF_FIVE" "[I") (.int (Int32.ofNat j))).eval #[Value.ref b] s none [] s = some (me_five j) := by
    intro j hj
    match j, hj with
    | 0, _ => exact va_eqt (hs (.eq (.elem (.static "WokenOnce" "POWERS_OF_FIVE" "[I") (.int 0)) (.int 1)) (by decide +kernel))
    | 1, _ => exact va_eqt (hs (.eq (.elem (.static "WokenOnce" "POWERS_OF_FIVE" "[I") (.int 1)) (.int 5)) (by decide +kernel))
    | 2, _ => exact va_eqt (hs (.eq (.elem (.static "WokenOnce" "POWERS_OF_FIVE" "[I") (.int 2)) (.int 25)) (by decide +kernel))
    | 3, _ => exact va_eqt (hs (.eq (.elem (.static "WokenOnce" "POWERS_OF_FIVE" "[I") (.int 3)) (.int 125)) (by decide +kernel))
    | 4, _ => exact va_eqt (hs (.eq (.elem (.static "WokenOnce" "POWERS_OF_FIVE" "[I") (.int 4)) (.int 625)) (by decide +kernel))
    | 5, _ => exact va_eqt (hs (.eq (.elem (.static "WokenOnce" "POWERS_OF_FIVE" "[I") (.int 5)) (.int 3125)) (by decide +kernel))
    | 6, _ => exact va_eqt (hs (.eq (.elem (.static "WokenOnce" "POWERS_OF_FIVE" "[I") (.int 6)) (.int 15625)) (by decide +kernel))
    | n + 7, h => exact absurd h (by omega)
  obtain ⟨t10, h1, h2⟩ := va_Tof (A := fun q => s.heap.size ≤ q) (by decide) (hs (.arrayOf (.static "WokenOnce" "POWERS_OF_TEN" "[J") .long) (by decide +kernel)) l1 e1 (fun a h q => absurd h (Nat.not_lt.mpr q))
  obtain ⟨t5, h3, h4⟩ := va_Tof (A := fun q => s.heap.size ≤ q) (by decide) (hs (.arrayOf (.static "WokenOnce" "POWERS_OF_FIVE" "[I") .int) (by decide +kernel)) l2 e2 (fun a h q => absurd h (Nat.not_lt.mpr q))
  refine ⟨t10, t5, fun A hA => ?_⟩
  have hn : ∀ q, A q → s.heap.size ≤ q := fun q h => Nat.le_of_not_lt (fun z => hA q z h)
  exact ⟨va_Zref (hts _ lw_w1.1) (hts _ lw_w1.2.2.1) h1 hA, h2.narrow hn, va_Zref (hts _ lw_w1.2.1) (hts _ lw_w1.2.2.1) h3 hA, h4.narrow hn⟩
/-- THE LAW'S LOOP -/
theorem law_head {p : Program} {l : Launch} {e : Env} {s : State} {m : MethodId} {below : List Frame} {meth : Method} {c : Code} {b L : Nat} {xs : Nat → Int32} {G : va_G} {cI cJ : ClassId} {ad : Nat → Nat} (C : lw_C p s m meth c b L xs G cI cJ ad) (hL : L ≤ 2048) : ∀ (n i : Nat) (ω : Om) (H : Heap) (locs : List Loc) (ls : Array Slot), L ≤ i + 4 * n + 3 → i ≤ 2048 → R ω → va_P G vwCl (me_cc cI cJ ad ω) H → va_S (fun q => s.heap.size ≤ q) s.heap H locs → lv_has ls 4 [(0, .ref b), (1, .ref (ad 0)), (2, .ref (ad 29)), (3, .int (nI i))] → W p l e room_1 s m #[Value.ref b] below meth c H locs 46 5068 (lw_Z below #[Value.ref b] s) (F0 m 18 ls []) := by
  obtain ⟨⟨hx, hb, hr, hml, hown, hts, hX, hbl, hlocks, hgv⟩, hE, had⟩ := id C
  have hbA : ¬ (fun q : Nat => s.heap.size ≤ q) b := Nat.not_le.mpr hbl
  intro n
  induction n with
  | zero =>
    intro i ω H locs ls hn hi2 hR hP hS hl
    refine lv_iload_n hx hb dl_18 rfl (lv_at hl 3 rfl) ?_
    refine lv_aload_n hx hb dl_19 rfl (lv_at hl 0 rfl) ?_
    refine va_slen hx hb hX hbl hbA hS dl_20 ?_
    refine lv_iconst (v := 4) hx hb dl_21 (by decide) ?_
    refine lv_isub hx hb dl_22 ?_
    refine lv_icmp_gt (tgt := 843) hx hb dl_23 (by decide) (fun _ => ?_) (fun c1 => absurd ((sub_lt (c := 4) (by omega) (by decide) (by omega)).mpr (by omega)) c1)
    refine lv_iconst (v := 1) hx hb dl_843 (by decide) ?_
    refine va_forget (fun q hq => hS.2.2 q hq) ?_
    exact lw_ret hx hb hr hlocks dl_844
  | succ n ih =>
    intro i ω H locs ls hn hi2 hR hP hS hl
    refine lv_iload_n hx hb dl_18 rfl (lv_at hl 3 rfl) ?_
    refine lv_aload_n hx hb dl_19 rfl (lv_at hl 0 rfl) ?_
    refine va_slen hx hb hX hbl hbA hS dl_20 ?_
    refine lv_iconst (v := 4) hx hb dl_21 (by decide) ?_
    refine lv_isub hx hb dl_22 ?_
    refine lv_icmp_gt (tgt := 843) hx hb dl_23 (by decide) (fun _ => ?_) (fun c1 => ?_)
    · refine lv_iconst (v := 1) hx hb dl_843 (by decide) ?_
      refine va_forget (fun q hq => hS.2.2 q hq) ?_
      exact lw_ret hx hb hr hlocks dl_844
    · have hi : i + 4 ≤ L := by
        by_cases q : i + 4 ≤ L
        · exact q
        · exact absurd ((sub_lt (c := 4) (by omega) (by decide) (by omega)).mpr (by omega)) c1
      have kk : ∀ (ω2 : Om) (H2 : Heap) (locs2 : List Loc), R ω2 → va_P G vwCl (me_cc cI cJ ad ω2) H2 → va_S (fun q => s.heap.size ≤ q) s.heap H2 locs2 → W p l e room_1 s m #[Value.ref b] below meth c H2 locs2 46 5068 (lw_Z below #[Value.ref b] s) (F0 m 837 ls []) := by
        intro ω2 H2 locs2 hR2 hP2 hS2
        refine lv_iinc (v := nI (i + 4)) (lv' := [(3, .int (nI (i + 4))), (0, .ref b), (1, .ref (ad 0)), (2, .ref (ad 29))]) hx hb dl_837 hl (k := 3) rfl (by rw [show Int32.ofInt 4 = nI 4 from by decide, nI_add]) (by decide) rfl (fun ls hl => ?_)
        refine lv_goto (tgt := 18) hx hb dl_840 (by decide) ?_
        exact ih (i + 4) ω2 H2 locs2 ls (by omega) (by omega) hR2 hP2 hS2 (lv_sub hl [1, 2, 3, 0] rfl)
      refine lv_aload_n hx hb dl_26 rfl (lv_at hl 0 rfl) ?_
      refine lv_iload_n hx hb dl_27 rfl (lv_at hl 3 rfl) ?_
      refine va_sld hx hb hX hbl hbA hS (vp_in_nI (by omega) (by omega)) dl_28 ?_
      refine lv_bipush (v := 31) hx hb dl_29 (by decide) ?_
      refine lv_iand hx hb dl_31 ?_
      obtain ⟨j, hj, ej⟩ := pk_andE (xs (nI i).toNatClampNeg) (m := 31) 5 rfl
      rw [ej]
      match j, hj with
      | 0, _ => exact lv_tableIn (off := 124) (tgt := 156) hx hb dl_32 (by decide) (by decide) (by decide) (by decide) (law_0 C hi hL hR hP hS hl kk)
      | 1, _ => exact lv_tableIn (off := 177) (tgt := 209) hx hb dl_32 (by decide) (by decide) (by decide) (by decide) (law_1 C hi hL hR hP hS hl kk)
      | 2, _ => exact lv_tableIn (off := 190) (tgt := 222) hx hb dl_32 (by decide) (by decide) (by decide) (by decide) (law_2 C hi hL hR hP hS hl kk)
      | 3, _ => exact lv_tableIn (off := 213) (tgt := 245) hx hb dl_32 (by decide) (by decide) (by decide) (by decide) (law_3 C hi hL hR hP hS hl kk)
      | 4, _ => exact lv_tableIn (off := 226) (tgt := 258) hx hb dl_32 (by decide) (by decide) (by decide) (by decide) (law_4 C hi hL hR hP hS hl kk)
      | 5, _ => exact lv_tableIn (off := 239) (tgt := 271) hx hb dl_32 (by decide) (by decide) (by decide) (by decide) (law_5 C hi hL hR hP hS hl kk)
      | 6, _ => exact lv_tableIn (off := 272) (tgt := 304) hx hb dl_32 (by decide) (by decide) (by decide) (by decide) (law_6 C hi hL hR hP hS hl kk)
      | 7, _ => exact lv_tableIn (off := 305) (tgt := 337) hx hb dl_32 (by decide) (by decide) (by decide) (by decide) (law_7 C hi hL hR hP hS hl kk)
      | 8, _ => exact lv_tableIn (off := 348) (tgt := 380) hx hb dl_32 (by decide) (by decide) (by decide) (by decide) (law_8 C hi hL hR hP hS hl kk)
      | 9, _ => exact lv_tableIn (off := 381) (tgt := 413) hx hb dl_32 (by decide) (by decide) (by decide) (by decide) (law_9 C hi hL hR hP hS hl kk)
      | 10, _ => exact lv_tableIn (off := 414) (tgt := 446) hx hb dl_32 (by decide) (by decide) (by decide) (by decide) (law_10 C hi hL hR hP hS hl kk)
      | 11, _ => exact lv_tableIn (off := 447) (tgt := 479) hx hb dl_32 (by decide) (by decide) (by decide) (by decide) (law_11 C hi hL hR hP hS hl kk)
      | 12, _ => exact lv_tableIn (off := 480) (tgt := 512) hx hb dl_32 (by decide) (by decide) (by decide) (by decide) (law_12 C hi hL hR hP hS hl kk)
      | 13, _ => exact lv_tableIn (off := 493) (tgt := 525) hx hb dl_32 (by decide) (by decide) (by decide) (by decide) (law_13 C hi hL hR hP hS hl kk)
      | 14, _ => exact lv_tableIn (off := 516) (tgt := 548) hx hb dl_32 (by decide) (by decide) (by decide) (by decide) (law_14 C hi hL hR hP hS hl kk)
      | 15, _ => exact lv_tableIn (off := 539) (tgt := 571) hx hb dl_32 (by decide) (by decide) (by decide) (by decide) (law_15 C hi hL hR hP hS hl kk)
      | 16, _ => exact lv_tableIn (off := 552) (tgt := 584) hx hb dl_32 (by decide) (by decide) (by decide) (by decide) (law_16 C hi hL hR hP hS hl kk)
      | 17, _ => exact lv_tableIn (off := 575) (tgt := 607) hx hb dl_32 (by decide) (by decide) (by decide) (by decide) (law_17 C hi hL hR hP hS hl kk)
      | 18, _ => exact lv_tableIn (off := 598) (tgt := 630) hx hb dl_32 (by decide) (by decide) (by decide) (by decide) (law_18 C hi hL hR hP hS hl kk)
      | 19, _ => exact lv_tableIn (off := 631) (tgt := 663) hx hb dl_32 (by decide) (by decide) (by decide) (by decide) (law_19 C hi hL hR hP hS hl kk)
      | 20, _ => exact lv_tableIn (off := 654) (tgt := 686) hx hb dl_32 (by decide) (by decide) (by decide) (by decide) (law_20 C hi hL hR hP hS hl kk)
      | 21, _ => exact lv_tableIn (off := 677) (tgt := 709) hx hb dl_32 (by decide) (by decide) (by decide) (by decide) (law_21 C hi hL hR hP hS hl kk)
      | 22, _ => exact lv_tableIn (off := 710) (tgt := 742) hx hb dl_32 (by decide) (by decide) (by decide) (by decide) (law_22 C hi hL hR hP hS hl kk)
      | 23, _ => exact lv_tableIn (off := 743) (tgt := 775) hx hb dl_32 (by decide) (by decide) (by decide) (by decide) (law_23 C hi hL hR hP hS hl kk)
      | 24, _ => exact lv_tableIn (off := 756) (tgt := 788) hx hb dl_32 (by decide) (by decide) (by decide) (by decide) (law_24 C hi hL hR hP hS hl kk)
      | 25, _ => exact lv_tableIn (off := 769) (tgt := 801) hx hb dl_32 (by decide) (by decide) (by decide) (by decide) (law_25 C hi hL hR hP hS hl kk)
      | 26, _ => exact lv_tableIn (off := 792) (tgt := 824) hx hb dl_32 (by decide) (by decide) (by decide) (by decide) (law_26 C hi hL hR hP hS hl kk)
      | n + 27, h =>
        refine lv_tableOut (tgt := 837) hx hb dl_32 (Or.inr ?_) (by decide) (kk ω H locs hR hP hS)
        rw [nI_toInt (by omega)]
        omega
set_option maxHeartbeats 4000000 in
set_option maxRecDepth 100000 in
/-- THE LAW, from its entry -/
theorem whole_start {p : Program} {e : Env} {s : State} {m : MethodId} {below : List Frame} {meth : Method} {c : Code} (l : Launch) {b L : Nat} {xs : Nat → Int32} (hL : L ≤ 2048) (C0 : lw_At p s m meth c b L xs) : W p l e room_1 s m #[Value.ref b] below meth c s.heap [] 0 0 (lw_Z below #[Value.ref b] s) (entryFrame m ([Value.ref b] : List Value).toArray 4) := by
  obtain ⟨hx, hb, hr, hml, hown, hts, hX, hbl, hlocks, hgv⟩ := id C0
  have hk : ∀ k : Nat, ∃ x : ClassId × (Nat → Nat), ∀ q, vwCl[k]? = some q → u_Kn s q.1 q.2.1 q.2.2 x.1 x.2 := by
    intro k
    cases hq : vwCl[k]? with
    | none => exact ⟨(0, fun _ => 0), fun q h => by cases h⟩
    | some q =>
      obtain ⟨c0, iS, h⟩ := u_known (C := q.1) (T := q.2.1) (N := q.2.2) (n := q.2.2) hts (fun w hw => (List.mem_filter.mp (me_lays k q.1 q.2.1 q.2.2 hq w hw)).1) (hts (.instantiable q.1 q.2.2) (lw_ins q (List.mem_of_getElem? hq)))
      exact ⟨(c0, iS), fun q' h' => by cases h'; exact h⟩
  obtain ⟨G, hKc⟩ : ∃ G : va_G, ∀ (k : Nat) (q : vw_C), vwCl[k]? = some q → u_Kn s q.1 q.2.1 q.2.2 (G.1 k) (G.2 k) := ⟨(fun k => (Classical.choose (hk k)).1, fun k => (Classical.choose (hk k)).2), fun k q h => Classical.choose_spec (hk k) q h⟩
  obtain ⟨cI, kI, pI, i1, i2, i3⟩ := Cond.arrayClass_spec (hts (.arrayClass .int) lw_w1.2.2.2.1)
  obtain ⟨cJ, kJ, pJ, j1, j2, j3⟩ := Cond.arrayClass_spec (hts (.arrayClass .long) lw_w1.2.2.2.2)
  have hKK : va_K G vwCl (me_ty cI cJ) s := by
    refine ⟨hKc, fun k q h => ?_⟩
    match k, h with
    | 0, h => cases h; exact ⟨fun n z => ⟨fun k h => (by cases h), kI, i2, pI, i3⟩, i1⟩
    | 1, h => cases h; exact ⟨fun n z => ⟨fun k h => (by cases h), kJ, j2, pJ, j3⟩, j1⟩
    | n + 2, h => simp at h
  have hNw : me_Nw s := by
    intro w hw
    obtain ⟨h1, h2⟩ := List.mem_filter.mp hw
    have h3 := hts w h1
    unfold me_isn at h2
    split at h2
    · exact va_Nw.of rfl h3
    · exact va_Nw.of rfl h3
    · cases h2
  obtain ⟨t10, t5, hst⟩ := lw_stat hts hgv
  have hlt : ∀ i, i < me_lay.length → lw_ad s.heap.size t10 t5 i = s.heap.size + i := fun i hi => if_pos hi
  have hEn : me_En G cI cJ (lw_ad s.heap.size t10 t5) s := by
    refine ⟨hKK, fun i j hi hj h => ?_, hst (me_A (lw_ad s.heap.size t10 t5)) ?_, hNw⟩
    · rw [hlt i hi, hlt j hj] at h
      omega
    · rintro a ha ⟨i, hi, rfl⟩
      rw [hlt i hi] at ha
      omega
  have CC : lw_C p s m meth c b L xs G cI cJ (lw_ad s.heap.size t10 t5) := ⟨C0, hEn, fun i hi => by rw [hlt i hi]; omega⟩
  have hE : al_En G cI cJ s := ⟨hKK, hNw⟩
  have hS : va_S (fun q : Nat => s.heap.size ≤ q) s.heap s.heap [] := va_S.rf
  have hP : va_P G vwCl (al_cc cI cJ s.heap.size []) s.heap := fun k q h => by simp [al_cc] at h
  have hl := lv_entry ([.ref b]) (n := 4) (Nat.le_of_ble_eq_true rfl)
  rw [lg_entry_eq]
  generalize (lg_sl ([.ref b]) ++ List.replicate (4 - (lg_sl ([.ref b])).length) Slot.unset).toArray = ls at hl ⊢
  have hl : lv_has ls 4 [(0, .ref b)] := hl
  refine lw_new (ws := []) (a := 10) hx hb hown hts hKK rfl hP hS dl_0 (by decide) lw_w0.1 lw_w0.2.1 (by decide +kernel) (by decide) (by decide) (fun H hH hP hS => ?_)
  refine lv_dup hx hb dl_3 rfl ?_
  refine lw_init (z := 63) (k := 0) (rest := [.ref s.heap.size]) hx hb hml hown hts hE hH hP hS al_ctX dl_4 (by decide) lw_w0.2.2.1 lw_w0.2.2.2.1 (by decide +kernel) (by decide) (by decide) (by decide) (Nat.le_of_ble_eq_true rfl) hl.1 (by decide) (by decide) (fun H locs hH hP hS => ?_)
  refine lv_astore_n (lv' := [(1, .ref s.heap.size), (0, .ref b)]) hx hb dl_7 rfl hl (by decide) rfl (fun ls hl => ?_)
  refine lw_new (a := 11) hx hb hown hts hKK hH hP hS dl_8 (by decide) lw_w0.2.2.2.2.1 lw_w0.2.2.2.2.2.1 (by decide +kernel) (by decide) (by decide) (fun H hH hP hS => ?_)
  refine lv_dup hx hb dl_11 rfl ?_
  refine lw_init (z := 122) (k := 29) (rest := [.ref (s.heap.size + al_X.length)]) hx hb hml hown hts hE hH hP hS al_ctM dl_12 (by decide) lw_w0.2.2.2.2.2.2.1 lw_w0.2.2.2.2.2.2.2 (by decide +kernel) (by decide) (by decide) (by decide) (Nat.le_of_ble_eq_true rfl) hl.1 (by decide) (by decide) (fun H locs hH hP hS => ?_)
  refine lv_astore_n (lv' := [(2, .ref (s.heap.size + 29)), (1, .ref s.heap.size), (0, .ref b)]) hx hb dl_15 rfl hl (by decide) rfl (fun ls hl => ?_)
  refine lv_iconst (v := 0) hx hb dl_16 (by decide) ?_
  refine lv_istore_n (lv' := [(3, .int 0), (2, .ref (s.heap.size + 29)), (1, .ref s.heap.size), (0, .ref b)]) hx hb dl_17 rfl hl (by decide) rfl (fun ls hl => ?_)
  refine W.widen (k := 46) (n := 5068) (by decide) (by decide) ?_
  rw [al_me (t10 := t10) (t5 := t5)] at hP
  exact law_head CC hL 512 0 om0 H locs ls (by omega) (by omega) R.o hP hS (lv_sub hl [3, 2, 1, 0] rfl)
