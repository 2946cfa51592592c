theorem lc_eq (a : Int64) : lg_cmp a a = 0 := by unfold lg_cmp; simp
/-- behind a turn: the script is at its end -/
theorem law_end {p : Program} {l : Launch} {e : Env} {s : State} {m : MethodId} {below : List Frame} {meth : Method} {c : Code} {b L : Nat} {xs : Nat → Int32} {G : va_G} {cI cJ : ClassId} {ad : Nat → Nat} {H : Heap} {locs : List Loc} {ls : Array Slot} (C : lw_C p s m meth c b L xs G cI cJ ad) (hL4 : L = 4) (hS : va_S (fun q => s.heap.size ≤ q) s.heap H locs) (hl : lv_has ls 4 [(0, .ref b), (1, .ref (ad 0)), (2, .ref (ad 29)), (3, .int 0)]) : W p l e room_1 s m #[Value.ref b] below meth c H locs 46 5068 (lw_Z below #[Value.ref b] s) (F0 m 841 ls []) := by
  obtain ⟨⟨hx, hb, hr, hml, hown, hts, hX, hbl, hlocks, hgv⟩, hE, had⟩ := C
  subst hL4
  have hbA : ¬ (fun q : Nat => s.heap.size ≤ q) b := Nat.not_le.mpr hbl
  refine lv_iinc (v := 4) (lv' := [(3, .int 4), (0, .ref b), (1, .ref (ad 0)), (2, .ref (ad 29))]) hx hb dl_841 hl (k := 3) rfl (by decide) (by decide) rfl (fun ls hl => ?_)
  refine lv_goto (tgt := 18) hx hb dl_844 (by decide) ?_
  refine lv_iload_n hx hb dl_18 rfl (lv_at hl 0 rfl) ?_
  refine lv_aload_n hx hb dl_19 rfl (lv_at hl 1 rfl) ?_
  refine va_slen hx hb hX hbl hbA hS dl_20 ?_
  refine lv_iconst (v := 4) hx hb dl_21 (by decide) ?_
  refine lv_isub hx hb dl_22 ?_
  refine lv_icmp_gt (tgt := 847) hx hb dl_23 (by decide) (fun _ => ?_) (fun cc => absurd (by decide) cc)
  refine lv_iconst (v := 1) hx hb dl_847 (by decide) ?_
  refine va_forget (fun q hq => hS.2.2 q hq) ?_
  exact lw_ret hx hb hr hlocks dl_848

set_option maxRecDepth 100000 in
theorem law_0 {p : Program} {l : Launch} {e : Env} {s : State} {m : MethodId} {below : List Frame} {meth : Method} {c : Code} {b L : Nat} {xs : Nat → Int32} {G : va_G} {cI cJ : ClassId} {ad : Nat → Nat} {H : Heap} {locs : List Loc} {ls : Array Slot} (C : lw_C p s m meth c b L xs G cI cJ ad) (hL4 : L = 4) (hP : va_P G vwCl (me_cc cI cJ ad om0) H) (hS : va_S (fun q => s.heap.size ≤ q) s.heap H locs) (hl : lv_has ls 4 [(0, .ref b), (1, .ref (ad 0)), (2, .ref (ad 29)), (3, .int 0)]) : W p l e room_1 s m #[Value.ref b] below meth c H locs 46 5068 (lw_Z below #[Value.ref b] s) (F0 m 156 ls []) := by
  obtain ⟨⟨hx, hb, hr, hml, hown, hts, hX, hbl, hlocks, hgv⟩, hE, had⟩ := id C
  subst hL4
  have hbA : ¬ (fun q : Nat => s.heap.size ≤ q) b := Nat.not_le.mpr hbl
  have hin1 : vp_in ((0 : Int32) + 1) 4 := by unfold vp_in; decide
  have hin2 : vp_in ((0 : Int32) + 2) 4 := by unfold vp_in; decide
  have hin3 : vp_in ((0 : Int32) + 3) 4 := by unfold vp_in; decide
  obtain ⟨r0, hX1, hX2⟩ := pr_letters ((((xs ((0 : Int32) + 1).toNatClampNeg).toInt64 <<< ((32 : Int32).toInt64 &&& 63)) ||| ((xs ((0 : Int32) + 2).toNatClampNeg).toInt64 &&& (4294967295 : Int64))))
  refine lv_aload_n hx hb dl_156 rfl (lv_at hl 1 rfl) ?_
  refine lv_aload_n hx hb dl_157 rfl (lv_at hl 0 rfl) ?_
  refine lv_iload_n hx hb dl_158 rfl (lv_at hl 3 rfl) ?_
  refine lv_iconst (v := 1) hx hb dl_159 (by decide) ?_
  refine lv_iadd hx hb dl_160 ?_
  refine va_sld hx hb hX hbl hbA hS hin1 dl_161 ?_
  refine lv_i2l hx hb dl_162 rfl ?_
  refine lv_bipush (v := 32) hx hb dl_163 (by decide) ?_
  refine lv_lshl hx hb dl_165 rfl ?_
  refine lv_aload_n hx hb dl_166 rfl (lv_at hl 0 rfl) ?_
  refine lv_iload_n hx hb dl_167 rfl (lv_at hl 3 rfl) ?_
  refine lv_iconst (v := 2) hx hb dl_168 (by decide) ?_
  refine lv_iadd hx hb dl_169 ?_
  refine va_sld hx hb hX hbl hbA hS hin2 dl_170 ?_
  refine lv_i2l hx hb dl_171 rfl ?_
  refine lv_ldc2 (v := 4294967295) hx hb hown (hts _ (List.mem_of_getElem? (i := 1212) rfl)) dl_172 ?_
  refine lv_land hx hb dl_175 ?_
  refine lv_lor hx hb dl_176 ?_
  refine lw_cv (z := 64) (k := 0) (j := 344) (as := [.long (((xs ((0 : Int32) + 1).toNatClampNeg).toInt64 <<< ((32 : Int32).toInt64 &&& 63)) ||| ((xs ((0 : Int32) + 2).toNatClampNeg).toInt64 &&& (4294967295 : Int64)))]) (rest := []) C hP hS dl_177 (by decide) (by decide +kernel) (by decide +kernel) (by decide +kernel) rfl (by decide +kernel) (Nat.le_of_ble_eq_true rfl) hl.1 rfl hX1 (fun r ω1 H1 locs1 hq hP1 hS1 => ?_)
  obtain ⟨_, rfl, rfl, hM⟩ := hq
  have hS := hS1
  refine lv_aload_n hx hb dl_180 rfl (lv_at hl 2 rfl) ?_
  refine lv_aload_n hx hb dl_181 rfl (lv_at hl 0 rfl) ?_
  refine lv_iload_n hx hb dl_182 rfl (lv_at hl 3 rfl) ?_
  refine lv_iconst (v := 1) hx hb dl_183 (by decide) ?_
  refine lv_iadd hx hb dl_184 ?_
  refine va_sld hx hb hX hbl hbA hS hin1 dl_185 ?_
  refine lv_i2l hx hb dl_186 rfl ?_
  refine lv_bipush (v := 32) hx hb dl_187 (by decide) ?_
  refine lv_lshl hx hb dl_189 rfl ?_
  refine lv_aload_n hx hb dl_190 rfl (lv_at hl 0 rfl) ?_
  refine lv_iload_n hx hb dl_191 rfl (lv_at hl 3 rfl) ?_
  refine lv_iconst (v := 2) hx hb dl_192 (by decide) ?_
  refine lv_iadd hx hb dl_193 ?_
  refine va_sld hx hb hX hbl hbA hS hin2 dl_194 ?_
  refine lv_i2l hx hb dl_195 rfl ?_
  refine lv_ldc2 (v := 4294967295) hx hb hown (hts _ (List.mem_of_getElem? (i := 1212) rfl)) dl_196 ?_
  refine lv_land hx hb dl_199 ?_
  refine lv_lor hx hb dl_200 ?_
  refine lw_cv (z := 124) (k := 29) (j := 949) (as := [.long (((xs ((0 : Int32) + 1).toNatClampNeg).toInt64 <<< ((32 : Int32).toInt64 &&& 63)) ||| ((xs ((0 : Int32) + 2).toNatClampNeg).toInt64 &&& (4294967295 : Int64)))]) (rest := [.int _]) C hP1 hS1 dl_201 (by decide) (by decide +kernel) (by decide +kernel) (by decide +kernel) rfl (by decide +kernel) (Nat.le_of_ble_eq_true rfl) hl.1 rfl (hX2 ω1 hM) (fun r ω2 H2 locs2 hq hP2 hS2 => ?_)
  obtain ⟨_, rfl, rfl⟩ := hq
  refine lv_icmp_eq (tgt := 841) hx hb dl_204 (by decide) (fun _ => law_end C rfl hS2 hl) (fun cc => absurd rfl cc)
set_option maxRecDepth 100000 in
theorem law_1 {p : Program} {l : Launch} {e : Env} {s : State} {m : MethodId} {below : List Frame} {meth : Method} {c : Code} {b L : Nat} {xs : Nat → Int32} {G : va_G} {cI cJ : ClassId} {ad : Nat → Nat} {H : Heap} {locs : List Loc} {ls : Array Slot} (C : lw_C p s m meth c b L xs G cI cJ ad) (hL4 : L = 4) (hP : va_P G vwCl (me_cc cI cJ ad om0) H) (hS : va_S (fun q => s.heap.size ≤ q) s.heap H locs) (hl : lv_has ls 4 [(0, .ref b), (1, .ref (ad 0)), (2, .ref (ad 29)), (3, .int 0)]) : W p l e room_1 s m #[Value.ref b] below meth c H locs 46 5068 (lw_Z below #[Value.ref b] s) (F0 m 209 ls []) := by
  obtain ⟨⟨hx, hb, hr, hml, hown, hts, hX, hbl, hlocks, hgv⟩, hE, had⟩ := id C
  subst hL4
  have hbA : ¬ (fun q : Nat => s.heap.size ≤ q) b := Nat.not_le.mpr hbl
  have hin1 : vp_in ((0 : Int32) + 1) 4 := by unfold vp_in; decide
  have hin2 : vp_in ((0 : Int32) + 2) 4 := by unfold vp_in; decide
  have hin3 : vp_in ((0 : Int32) + 3) 4 := by unfold vp_in; decide
  obtain ⟨r0, hX1, hX2⟩ := pr_blank 
  refine lv_aload_n hx hb dl_209 rfl (lv_at hl 1 rfl) ?_
  refine lw_cv (z := 65) (k := 0) (j := 358) (as := []) (rest := []) C hP hS dl_210 (by decide) (by decide +kernel) (by decide +kernel) (by decide +kernel) rfl (by decide +kernel) (Nat.le_of_ble_eq_true rfl) hl.1 rfl hX1 (fun r ω1 H1 locs1 hq hP1 hS1 => ?_)
  obtain ⟨_, rfl, rfl, hM⟩ := hq
  have hS := hS1
  refine lv_aload_n hx hb dl_213 rfl (lv_at hl 2 rfl) ?_
  refine lw_cv (z := 125) (k := 29) (j := 954) (as := []) (rest := [.int _]) C hP1 hS1 dl_214 (by decide) (by decide +kernel) (by decide +kernel) (by decide +kernel) rfl (by decide +kernel) (Nat.le_of_ble_eq_true rfl) hl.1 rfl (hX2 ω1 hM) (fun r ω2 H2 locs2 hq hP2 hS2 => ?_)
  obtain ⟨_, rfl, rfl⟩ := hq
  refine lv_icmp_eq (tgt := 841) hx hb dl_217 (by decide) (fun _ => law_end C rfl hS2 hl) (fun cc => absurd rfl cc)
set_option maxRecDepth 100000 in
theorem law_2 {p : Program} {l : Launch} {e : Env} {s : State} {m : MethodId} {below : List Frame} {meth : Method} {c : Code} {b L : Nat} {xs : Nat → Int32} {G : va_G} {cI cJ : ClassId} {ad : Nat → Nat} {H : Heap} {locs : List Loc} {ls : Array Slot} (C : lw_C p s m meth c b L xs G cI cJ ad) (hL4 : L = 4) (hP : va_P G vwCl (me_cc cI cJ ad om0) H) (hS : va_S (fun q => s.heap.size ≤ q) s.heap H locs) (hl : lv_has ls 4 [(0, .ref b), (1, .ref (ad 0)), (2, .ref (ad 29)), (3, .int 0)]) : W p l e room_1 s m #[Value.ref b] below meth c H locs 46 5068 (lw_Z below #[Value.ref b] s) (F0 m 222 ls []) := by
  obtain ⟨⟨hx, hb, hr, hml, hown, hts, hX, hbl, hlocks, hgv⟩, hE, had⟩ := id C
  subst hL4
  have hbA : ¬ (fun q : Nat => s.heap.size ≤ q) b := Nat.not_le.mpr hbl
  have hin1 : vp_in ((0 : Int32) + 1) 4 := by unfold vp_in; decide
  have hin2 : vp_in ((0 : Int32) + 2) 4 := by unfold vp_in; decide
  have hin3 : vp_in ((0 : Int32) + 3) 4 := by unfold vp_in; decide
  obtain ⟨r0, hX1, hX2⟩ := pr_fault ((xs ((0 : Int32) + 1).toNatClampNeg))
  refine lv_aload_n hx hb dl_222 rfl (lv_at hl 1 rfl) ?_
  refine lv_aload_n hx hb dl_223 rfl (lv_at hl 0 rfl) ?_
  refine lv_iload_n hx hb dl_224 rfl (lv_at hl 3 rfl) ?_
  refine lv_iconst (v := 1) hx hb dl_225 (by decide) ?_
  refine lv_iadd hx hb dl_226 ?_
  refine va_sld hx hb hX hbl hbA hS hin1 dl_227 ?_
  refine lw_cv (z := 66) (k := 0) (j := 362) (as := [.int (xs ((0 : Int32) + 1).toNatClampNeg)]) (rest := []) C hP hS dl_228 (by decide) (by decide +kernel) (by decide +kernel) (by decide +kernel) rfl (by decide +kernel) (Nat.le_of_ble_eq_true rfl) hl.1 rfl hX1 (fun r ω1 H1 locs1 hq hP1 hS1 => ?_)
  obtain ⟨_, rfl, rfl, hM⟩ := hq
  have hS := hS1
  refine lv_aload_n hx hb dl_231 rfl (lv_at hl 2 rfl) ?_
  refine lv_aload_n hx hb dl_232 rfl (lv_at hl 0 rfl) ?_
  refine lv_iload_n hx hb dl_233 rfl (lv_at hl 3 rfl) ?_
  refine lv_iconst (v := 1) hx hb dl_234 (by decide) ?_
  refine lv_iadd hx hb dl_235 ?_
  refine va_sld hx hb hX hbl hbA hS hin1 dl_236 ?_
  refine lw_cv (z := 131) (k := 29) (j := 958) (as := [.int (xs ((0 : Int32) + 1).toNatClampNeg)]) (rest := [.int _]) C hP1 hS1 dl_237 (by decide) (by decide +kernel) (by decide +kernel) (by decide +kernel) rfl (by decide +kernel) (Nat.le_of_ble_eq_true rfl) hl.1 rfl (hX2 ω1 hM) (fun r ω2 H2 locs2 hq hP2 hS2 => ?_)
  obtain ⟨_, rfl, rfl⟩ := hq
  refine lv_icmp_eq (tgt := 841) hx hb dl_240 (by decide) (fun _ => law_end C rfl hS2 hl) (fun cc => absurd rfl cc)
set_option maxRecDepth 100000 in
theorem law_3 {p : Program} {l : Launch} {e : Env} {s : State} {m : MethodId} {below : List Frame} {meth : Method} {c : Code} {b L : Nat} {xs : Nat → Int32} {G : va_G} {cI cJ : ClassId} {ad : Nat → Nat} {H : Heap} {locs : List Loc} {ls : Array Slot} (C : lw_C p s m meth c b L xs G cI cJ ad) (hL4 : L = 4) (hP : va_P G vwCl (me_cc cI cJ ad om0) H) (hS : va_S (fun q => s.heap.size ≤ q) s.heap H locs) (hl : lv_has ls 4 [(0, .ref b), (1, .ref (ad 0)), (2, .ref (ad 29)), (3, .int 0)]) : W p l e room_1 s m #[Value.ref b] below meth c H locs 46 5068 (lw_Z below #[Value.ref b] s) (F0 m 245 ls []) := by
  obtain ⟨⟨hx, hb, hr, hml, hown, hts, hX, hbl, hlocks, hgv⟩, hE, had⟩ := id C
  subst hL4
  have hbA : ¬ (fun q : Nat => s.heap.size ≤ q) b := Nat.not_le.mpr hbl
  have hin1 : vp_in ((0 : Int32) + 1) 4 := by unfold vp_in; decide
  have hin2 : vp_in ((0 : Int32) + 2) 4 := by unfold vp_in; decide
  have hin3 : vp_in ((0 : Int32) + 3) 4 := by unfold vp_in; decide
  obtain ⟨r0, hX1, hX2⟩ := pr_bell 
  refine lv_aload_n hx hb dl_245 rfl (lv_at hl 1 rfl) ?_
  refine lw_cv (z := 67) (k := 0) (j := 423) (as := []) (rest := []) C hP hS dl_246 (by decide) (by decide +kernel) (by decide +kernel) (by decide +kernel) rfl (by decide +kernel) (Nat.le_of_ble_eq_true rfl) hl.1 rfl hX1 (fun r ω1 H1 locs1 hq hP1 hS1 => ?_)
  obtain ⟨_, rfl, rfl, hM⟩ := hq
  have hS := hS1
  refine lv_aload_n hx hb dl_249 rfl (lv_at hl 2 rfl) ?_
  refine lw_cv (z := 132) (k := 29) (j := 994) (as := []) (rest := [.int _]) C hP1 hS1 dl_250 (by decide) (by decide +kernel) (by decide +kernel) (by decide +kernel) rfl (by decide +kernel) (Nat.le_of_ble_eq_true rfl) hl.1 rfl (hX2 ω1 hM) (fun r ω2 H2 locs2 hq hP2 hS2 => ?_)
  obtain ⟨_, rfl, rfl⟩ := hq
  refine lv_icmp_eq (tgt := 841) hx hb dl_253 (by decide) (fun _ => law_end C rfl hS2 hl) (fun cc => absurd rfl cc)
set_option maxRecDepth 100000 in
theorem law_4 {p : Program} {l : Launch} {e : Env} {s : State} {m : MethodId} {below : List Frame} {meth : Method} {c : Code} {b L : Nat} {xs : Nat → Int32} {G : va_G} {cI cJ : ClassId} {ad : Nat → Nat} {H : Heap} {locs : List Loc} {ls : Array Slot} (C : lw_C p s m meth c b L xs G cI cJ ad) (hL4 : L = 4) (hP : va_P G vwCl (me_cc cI cJ ad om0) H) (hS : va_S (fun q => s.heap.size ≤ q) s.heap H locs) (hl : lv_has ls 4 [(0, .ref b), (1, .ref (ad 0)), (2, .ref (ad 29)), (3, .int 0)]) : W p l e room_1 s m #[Value.ref b] below meth c H locs 46 5068 (lw_Z below #[Value.ref b] s) (F0 m 258 ls []) := by
  obtain ⟨⟨hx, hb, hr, hml, hown, hts, hX, hbl, hlocks, hgv⟩, hE, had⟩ := id C
  subst hL4
  have hbA : ¬ (fun q : Nat => s.heap.size ≤ q) b := Nat.not_le.mpr hbl
  have hin1 : vp_in ((0 : Int32) + 1) 4 := by unfold vp_in; decide
  have hin2 : vp_in ((0 : Int32) + 2) 4 := by unfold vp_in; decide
  have hin3 : vp_in ((0 : Int32) + 3) 4 := by unfold vp_in; decide
  obtain ⟨r0, hX1, hX2⟩ := pr_rule 
  refine lv_aload_n hx hb dl_258 rfl (lv_at hl 1 rfl) ?_
  refine lw_cv (z := 68) (k := 0) (j := 438) (as := []) (rest := []) C hP hS dl_259 (by decide) (by decide +kernel) (by decide +kernel) (by decide +kernel) rfl (by decide +kernel) (Nat.le_of_ble_eq_true rfl) hl.1 rfl hX1 (fun r ω1 H1 locs1 hq hP1 hS1 => ?_)
  obtain ⟨_, rfl, rfl, hM⟩ := hq
  have hS := hS1
  refine lv_aload_n hx hb dl_262 rfl (lv_at hl 2 rfl) ?_
  refine lw_cv (z := 133) (k := 29) (j := 998) (as := []) (rest := [.int _]) C hP1 hS1 dl_263 (by decide) (by decide +kernel) (by decide +kernel) (by decide +kernel) rfl (by decide +kernel) (Nat.le_of_ble_eq_true rfl) hl.1 rfl (hX2 ω1 hM) (fun r ω2 H2 locs2 hq hP2 hS2 => ?_)
  obtain ⟨_, rfl, rfl⟩ := hq
  refine lv_icmp_eq (tgt := 841) hx hb dl_266 (by decide) (fun _ => law_end C rfl hS2 hl) (fun cc => absurd rfl cc)
set_option maxRecDepth 100000 in
theorem law_5 {p : Program} {l : Launch} {e : Env} {s : State} {m : MethodId} {below : List Frame} {meth : Method} {c : Code} {b L : Nat} {xs : Nat → Int32} {G : va_G} {cI cJ : ClassId} {ad : Nat → Nat} {H : Heap} {locs : List Loc} {ls : Array Slot} (C : lw_C p s m meth c b L xs G cI cJ ad) (hL4 : L = 4) (hP : va_P G vwCl (me_cc cI cJ ad om0) H) (hS : va_S (fun q => s.heap.size ≤ q) s.heap H locs) (hl : lv_has ls 4 [(0, .ref b), (1, .ref (ad 0)), (2, .ref (ad 29)), (3, .int 0)]) : W p l e room_1 s m #[Value.ref b] below meth c H locs 46 5068 (lw_Z below #[Value.ref b] s) (F0 m 271 ls []) := by
  obtain ⟨⟨hx, hb, hr, hml, hown, hts, hX, hbl, hlocks, hgv⟩, hE, had⟩ := id C
  subst hL4
  have hbA : ¬ (fun q : Nat => s.heap.size ≤ q) b := Nat.not_le.mpr hbl
  have hin1 : vp_in ((0 : Int32) + 1) 4 := by unfold vp_in; decide
  have hin2 : vp_in ((0 : Int32) + 2) 4 := by unfold vp_in; decide
  have hin3 : vp_in ((0 : Int32) + 3) 4 := by unfold vp_in; decide
  obtain ⟨r0, hX1, hX2⟩ := pr_tenths ((xs ((0 : Int32) + 1).toNatClampNeg)) ((xs ((0 : Int32) + 2).toNatClampNeg))
  refine lv_aload_n hx hb dl_271 rfl (lv_at hl 1 rfl) ?_
  refine lv_aload_n hx hb dl_272 rfl (lv_at hl 0 rfl) ?_
  refine lv_iload_n hx hb dl_273 rfl (lv_at hl 3 rfl) ?_
  refine lv_iconst (v := 1) hx hb dl_274 (by decide) ?_
  refine lv_iadd hx hb dl_275 ?_
  refine va_sld hx hb hX hbl hbA hS hin1 dl_276 ?_
  refine lv_aload_n hx hb dl_277 rfl (lv_at hl 0 rfl) ?_
  refine lv_iload_n hx hb dl_278 rfl (lv_at hl 3 rfl) ?_
  refine lv_iconst (v := 2) hx hb dl_279 (by decide) ?_
  refine lv_iadd hx hb dl_280 ?_
  refine va_sld hx hb hX hbl hbA hS hin2 dl_281 ?_
  refine lw_cv (z := 69) (k := 0) (j := 451) (as := [.int (xs ((0 : Int32) + 1).toNatClampNeg), .int (xs ((0 : Int32) + 2).toNatClampNeg)]) (rest := []) C hP hS dl_282 (by decide) (by decide +kernel) (by decide +kernel) (by decide +kernel) rfl (by decide +kernel) (Nat.le_of_ble_eq_true rfl) hl.1 rfl hX1 (fun r ω1 H1 locs1 hq hP1 hS1 => ?_)
  obtain ⟨_, rfl, rfl, hM⟩ := hq
  have hS := hS1
  refine lv_aload_n hx hb dl_285 rfl (lv_at hl 2 rfl) ?_
  refine lv_aload_n hx hb dl_286 rfl (lv_at hl 0 rfl) ?_
  refine lv_iload_n hx hb dl_287 rfl (lv_at hl 3 rfl) ?_
  refine lv_iconst (v := 1) hx hb dl_288 (by decide) ?_
  refine lv_iadd hx hb dl_289 ?_
  refine va_sld hx hb hX hbl hbA hS hin1 dl_290 ?_
  refine lv_aload_n hx hb dl_291 rfl (lv_at hl 0 rfl) ?_
  refine lv_iload_n hx hb dl_292 rfl (lv_at hl 3 rfl) ?_
  refine lv_iconst (v := 2) hx hb dl_293 (by decide) ?_
  refine lv_iadd hx hb dl_294 ?_
  refine va_sld hx hb hX hbl hbA hS hin2 dl_295 ?_
  refine lw_cv (z := 134) (k := 29) (j := 1002) (as := [.int (xs ((0 : Int32) + 1).toNatClampNeg), .int (xs ((0 : Int32) + 2).toNatClampNeg)]) (rest := [.int _]) C hP1 hS1 dl_296 (by decide) (by decide +kernel) (by decide +kernel) (by decide +kernel) rfl (by decide +kernel) (Nat.le_of_ble_eq_true rfl) hl.1 rfl (hX2 ω1 hM) (fun r ω2 H2 locs2 hq hP2 hS2 => ?_)
  obtain ⟨_, rfl, rfl⟩ := hq
  refine lv_icmp_eq (tgt := 841) hx hb dl_299 (by decide) (fun _ => law_end C rfl hS2 hl) (fun cc => absurd rfl cc)
set_option maxRecDepth 100000 in
theorem law_6 {p : Program} {l : Launch} {e : Env} {s : State} {m : MethodId} {below : List Frame} {meth : Method} {c : Code} {b L : Nat} {xs : Nat → Int32} {G : va_G} {cI cJ : ClassId} {ad : Nat → Nat} {H : Heap} {locs : List Loc} {ls : Array Slot} (C : lw_C p s m meth c b L xs G cI cJ ad) (hL4 : L = 4) (hP : va_P G vwCl (me_cc cI cJ ad om0) H) (hS : va_S (fun q => s.heap.size ≤ q) s.heap H locs) (hl : lv_has ls 4 [(0, .ref b), (1, .ref (ad 0)), (2, .ref (ad 29)), (3, .int 0)]) : W p l e room_1 s m #[Value.ref b] below meth c H locs 46 5068 (lw_Z below #[Value.ref b] s) (F0 m 304 ls []) := by
  obtain ⟨⟨hx, hb, hr, hml, hown, hts, hX, hbl, hlocks, hgv⟩, hE, had⟩ := id C
  subst hL4
  have hbA : ¬ (fun q : Nat => s.heap.size ≤ q) b := Nat.not_le.mpr hbl
  have hin1 : vp_in ((0 : Int32) + 1) 4 := by unfold vp_in; decide
  have hin2 : vp_in ((0 : Int32) + 2) 4 := by unfold vp_in; decide
  have hin3 : vp_in ((0 : Int32) + 3) 4 := by unfold vp_in; decide
  obtain ⟨r0, hX1, hX2⟩ := pr_sleeper ((xs ((0 : Int32) + 1).toNatClampNeg)) ((xs ((0 : Int32) + 2).toNatClampNeg))
  refine lv_aload_n hx hb dl_304 rfl (lv_at hl 1 rfl) ?_
  refine lv_aload_n hx hb dl_305 rfl (lv_at hl 0 rfl) ?_
  refine lv_iload_n hx hb dl_306 rfl (lv_at hl 3 rfl) ?_
  refine lv_iconst (v := 1) hx hb dl_307 (by decide) ?_
  refine lv_iadd hx hb dl_308 ?_
  refine va_sld hx hb hX hbl hbA hS hin1 dl_309 ?_
  refine lv_aload_n hx hb dl_310 rfl (lv_at hl 0 rfl) ?_
  refine lv_iload_n hx hb dl_311 rfl (lv_at hl 3 rfl) ?_
  refine lv_iconst (v := 2) hx hb dl_312 (by decide) ?_
  refine lv_iadd hx hb dl_313 ?_
  refine va_sld hx hb hX hbl hbA hS hin2 dl_314 ?_
  refine lw_cv (z := 70) (k := 0) (j := 467) (as := [.int (xs ((0 : Int32) + 1).toNatClampNeg), .int (xs ((0 : Int32) + 2).toNatClampNeg)]) (rest := []) C hP hS dl_315 (by decide) (by decide +kernel) (by decide +kernel) (by decide +kernel) rfl (by decide +kernel) (Nat.le_of_ble_eq_true rfl) hl.1 rfl hX1 (fun r ω1 H1 locs1 hq hP1 hS1 => ?_)
  obtain ⟨_, rfl, rfl, hM⟩ := hq
  have hS := hS1
  refine lv_aload_n hx hb dl_318 rfl (lv_at hl 2 rfl) ?_
  refine lv_aload_n hx hb dl_319 rfl (lv_at hl 0 rfl) ?_
  refine lv_iload_n hx hb dl_320 rfl (lv_at hl 3 rfl) ?_
  refine lv_iconst (v := 1) hx hb dl_321 (by decide) ?_
  refine lv_iadd hx hb dl_322 ?_
  refine va_sld hx hb hX hbl hbA hS hin1 dl_323 ?_
  refine lv_aload_n hx hb dl_324 rfl (lv_at hl 0 rfl) ?_
  refine lv_iload_n hx hb dl_325 rfl (lv_at hl 3 rfl) ?_
  refine lv_iconst (v := 2) hx hb dl_326 (by decide) ?_
  refine lv_iadd hx hb dl_327 ?_
  refine va_sld hx hb hX hbl hbA hS hin2 dl_328 ?_
  refine lw_cv (z := 136) (k := 29) (j := 1008) (as := [.int (xs ((0 : Int32) + 1).toNatClampNeg), .int (xs ((0 : Int32) + 2).toNatClampNeg)]) (rest := [.int _]) C hP1 hS1 dl_329 (by decide) (by decide +kernel) (by decide +kernel) (by decide +kernel) rfl (by decide +kernel) (Nat.le_of_ble_eq_true rfl) hl.1 rfl (hX2 ω1 hM) (fun r ω2 H2 locs2 hq hP2 hS2 => ?_)
  obtain ⟨_, rfl, rfl⟩ := hq
  refine lv_icmp_eq (tgt := 841) hx hb dl_332 (by decide) (fun _ => law_end C rfl hS2 hl) (fun cc => absurd rfl cc)
set_option maxRecDepth 100000 in
theorem law_7 {p : Program} {l : Launch} {e : Env} {s : State} {m : MethodId} {below : List Frame} {meth : Method} {c : Code} {b L : Nat} {xs : Nat → Int32} {G : va_G} {cI cJ : ClassId} {ad : Nat → Nat} {H : Heap} {locs : List Loc} {ls : Array Slot} (C : lw_C p s m meth c b L xs G cI cJ ad) (hL4 : L = 4) (hP : va_P G vwCl (me_cc cI cJ ad om0) H) (hS : va_S (fun q => s.heap.size ≤ q) s.heap H locs) (hl : lv_has ls 4 [(0, .ref b), (1, .ref (ad 0)), (2, .ref (ad 29)), (3, .int 0)]) : W p l e room_1 s m #[Value.ref b] below meth c H locs 46 5068 (lw_Z below #[Value.ref b] s) (F0 m 337 ls []) := by
  obtain ⟨⟨hx, hb, hr, hml, hown, hts, hX, hbl, hlocks, hgv⟩, hE, had⟩ := id C
  subst hL4
  have hbA : ¬ (fun q : Nat => s.heap.size ≤ q) b := Nat.not_le.mpr hbl
  have hin1 : vp_in ((0 : Int32) + 1) 4 := by unfold vp_in; decide
  have hin2 : vp_in ((0 : Int32) + 2) 4 := by unfold vp_in; decide
  have hin3 : vp_in ((0 : Int32) + 3) 4 := by unfold vp_in; decide
  obtain ⟨r0, hX1, hX2⟩ := pr_skill ((xs ((0 : Int32) + 1).toNatClampNeg)) ((xs ((0 : Int32) + 2).toNatClampNeg)) ((xs ((0 : Int32) + 3).toNatClampNeg))
  refine lv_aload_n hx hb dl_337 rfl (lv_at hl 1 rfl) ?_
  refine lv_aload_n hx hb dl_338 rfl (lv_at hl 0 rfl) ?_
  refine lv_iload_n hx hb dl_339 rfl (lv_at hl 3 rfl) ?_
  refine lv_iconst (v := 1) hx hb dl_340 (by decide) ?_
  refine lv_iadd hx hb dl_341 ?_
  refine va_sld hx hb hX hbl hbA hS hin1 dl_342 ?_
  refine lv_aload_n hx hb dl_343 rfl (lv_at hl 0 rfl) ?_
  refine lv_iload_n hx hb dl_344 rfl (lv_at hl 3 rfl) ?_
  refine lv_iconst (v := 2) hx hb dl_345 (by decide) ?_
  refine lv_iadd hx hb dl_346 ?_
  refine va_sld hx hb hX hbl hbA hS hin2 dl_347 ?_
  refine lv_aload_n hx hb dl_348 rfl (lv_at hl 0 rfl) ?_
  refine lv_iload_n hx hb dl_349 rfl (lv_at hl 3 rfl) ?_
  refine lv_iconst (v := 3) hx hb dl_350 (by decide) ?_
  refine lv_iadd hx hb dl_351 ?_
  refine va_sld hx hb hX hbl hbA hS hin3 dl_352 ?_
  refine lw_cv (z := 71) (k := 0) (j := 481) (as := [.int (xs ((0 : Int32) + 1).toNatClampNeg), .int (xs ((0 : Int32) + 2).toNatClampNeg), .int (xs ((0 : Int32) + 3).toNatClampNeg)]) (rest := []) C hP hS dl_353 (by decide) (by decide +kernel) (by decide +kernel) (by decide +kernel) rfl (by decide +kernel) (Nat.le_of_ble_eq_true rfl) hl.1 rfl hX1 (fun r ω1 H1 locs1 hq hP1 hS1 => ?_)
  obtain ⟨_, rfl, rfl, hM⟩ := hq
  have hS := hS1
  refine lv_aload_n hx hb dl_356 rfl (lv_at hl 2 rfl) ?_
  refine lv_aload_n hx hb dl_357 rfl (lv_at hl 0 rfl) ?_
  refine lv_iload_n hx hb dl_358 rfl (lv_at hl 3 rfl) ?_
  refine lv_iconst (v := 1) hx hb dl_359 (by decide) ?_
  refine lv_iadd hx hb dl_360 ?_
  refine va_sld hx hb hX hbl hbA hS hin1 dl_361 ?_
  refine lv_aload_n hx hb dl_362 rfl (lv_at hl 0 rfl) ?_
  refine lv_iload_n hx hb dl_363 rfl (lv_at hl 3 rfl) ?_
  refine lv_iconst (v := 2) hx hb dl_364 (by decide) ?_
  refine lv_iadd hx hb dl_365 ?_
  refine va_sld hx hb hX hbl hbA hS hin2 dl_366 ?_
  refine lv_aload_n hx hb dl_367 rfl (lv_at hl 0 rfl) ?_
  refine lv_iload_n hx hb dl_368 rfl (lv_at hl 3 rfl) ?_
  refine lv_iconst (v := 3) hx hb dl_369 (by decide) ?_
  refine lv_iadd hx hb dl_370 ?_
  refine va_sld hx hb hX hbl hbA hS hin3 dl_371 ?_
  refine lw_cv (z := 137) (k := 29) (j := 1014) (as := [.int (xs ((0 : Int32) + 1).toNatClampNeg), .int (xs ((0 : Int32) + 2).toNatClampNeg), .int (xs ((0 : Int32) + 3).toNatClampNeg)]) (rest := [.int _]) C hP1 hS1 dl_372 (by decide) (by decide +kernel) (by decide +kernel) (by decide +kernel) rfl (by decide +kernel) (Nat.le_of_ble_eq_true rfl) hl.1 rfl (hX2 ω1 hM) (fun r ω2 H2 locs2 hq hP2 hS2 => ?_)
  obtain ⟨_, rfl, rfl⟩ := hq
  refine lv_icmp_eq (tgt := 841) hx hb dl_375 (by decide) (fun _ => law_end C rfl hS2 hl) (fun cc => absurd rfl cc)
set_option maxRecDepth 100000 in
theorem law_8 {p : Program} {l : Launch} {e : Env} {s : State} {m : MethodId} {below : List Frame} {meth : Method} {c : Code} {b L : Nat} {xs : Nat → Int32} {G : va_G} {cI cJ : ClassId} {ad : Nat → Nat} {H : Heap} {locs : List Loc} {ls : Array Slot} (C : lw_C p s m meth c b L xs G cI cJ ad) (hL4 : L = 4) (hP : va_P G vwCl (me_cc cI cJ ad om0) H) (hS : va_S (fun q => s.heap.size ≤ q) s.heap H locs) (hl : lv_has ls 4 [(0, .ref b), (1, .ref (ad 0)), (2, .ref (ad 29)), (3, .int 0)]) : W p l e room_1 s m #[Value.ref b] below meth c H locs 46 5068 (lw_Z below #[Value.ref b] s) (F0 m 380 ls []) := by
  obtain ⟨⟨hx, hb, hr, hml, hown, hts, hX, hbl, hlocks, hgv⟩, hE, had⟩ := id C
  subst hL4
  have hbA : ¬ (fun q : Nat => s.heap.size ≤ q) b := Nat.not_le.mpr hbl
  have hin1 : vp_in ((0 : Int32) + 1) 4 := by unfold vp_in; decide
  have hin2 : vp_in ((0 : Int32) + 2) 4 := by unfold vp_in; decide
  have hin3 : vp_in ((0 : Int32) + 3) 4 := by unfold vp_in; decide
  obtain ⟨r0, hX1, hX2⟩ := pr_harm ((xs ((0 : Int32) + 1).toNatClampNeg)) ((xs ((0 : Int32) + 2).toNatClampNeg))
  refine lv_aload_n hx hb dl_380 rfl (lv_at hl 1 rfl) ?_
  refine lv_aload_n hx hb dl_381 rfl (lv_at hl 0 rfl) ?_
  refine lv_iload_n hx hb dl_382 rfl (lv_at hl 3 rfl) ?_
  refine lv_iconst (v := 1) hx hb dl_383 (by decide) ?_
  refine lv_iadd hx hb dl_384 ?_
  refine va_sld hx hb hX hbl hbA hS hin1 dl_385 ?_
  refine lv_aload_n hx hb dl_386 rfl (lv_at hl 0 rfl) ?_
  refine lv_iload_n hx hb dl_387 rfl (lv_at hl 3 rfl) ?_
  refine lv_iconst (v := 2) hx hb dl_388 (by decide) ?_
  refine lv_iadd hx hb dl_389 ?_
  refine va_sld hx hb hX hbl hbA hS hin2 dl_390 ?_
  refine lw_cv (z := 72) (k := 0) (j := 497) (as := [.int (xs ((0 : Int32) + 1).toNatClampNeg), .int (xs ((0 : Int32) + 2).toNatClampNeg)]) (rest := []) C hP hS dl_391 (by decide) (by decide +kernel) (by decide +kernel) (by decide +kernel) rfl (by decide +kernel) (Nat.le_of_ble_eq_true rfl) hl.1 rfl hX1 (fun r ω1 H1 locs1 hq hP1 hS1 => ?_)
  obtain ⟨_, rfl, rfl, hM⟩ := hq
  have hS := hS1
  refine lv_aload_n hx hb dl_394 rfl (lv_at hl 2 rfl) ?_
  refine lv_aload_n hx hb dl_395 rfl (lv_at hl 0 rfl) ?_
  refine lv_iload_n hx hb dl_396 rfl (lv_at hl 3 rfl) ?_
  refine lv_iconst (v := 1) hx hb dl_397 (by decide) ?_
  refine lv_iadd hx hb dl_398 ?_
  refine va_sld hx hb hX hbl hbA hS hin1 dl_399 ?_
  refine lv_aload_n hx hb dl_400 rfl (lv_at hl 0 rfl) ?_
  refine lv_iload_n hx hb dl_401 rfl (lv_at hl 3 rfl) ?_
  refine lv_iconst (v := 2) hx hb dl_402 (by decide) ?_
  refine lv_iadd hx hb dl_403 ?_
  refine va_sld hx hb hX hbl hbA hS hin2 dl_404 ?_
  refine lw_cv (z := 138) (k := 29) (j := 1018) (as := [.int (xs ((0 : Int32) + 1).toNatClampNeg), .int (xs ((0 : Int32) + 2).toNatClampNeg)]) (rest := [.int _]) C hP1 hS1 dl_405 (by decide) (by decide +kernel) (by decide +kernel) (by decide +kernel) rfl (by decide +kernel) (Nat.le_of_ble_eq_true rfl) hl.1 rfl (hX2 ω1 hM) (fun r ω2 H2 locs2 hq hP2 hS2 => ?_)
  obtain ⟨_, rfl, rfl⟩ := hq
  refine lv_icmp_eq (tgt := 841) hx hb dl_408 (by decide) (fun _ => law_end C rfl hS2 hl) (fun cc => absurd rfl cc)
set_option maxRecDepth 100000 in
theorem law_9 {p : Program} {l : Launch} {e : Env} {s : State} {m : MethodId} {below : List Frame} {meth : Method} {c : Code} {b L : Nat} {xs : Nat → Int32} {G : va_G} {cI cJ : ClassId} {ad : Nat → Nat} {H : Heap} {locs : List Loc} {ls : Array Slot} (C : lw_C p s m meth c b L xs G cI cJ ad) (hL4 : L = 4) (hP : va_P G vwCl (me_cc cI cJ ad om0) H) (hS : va_S (fun q => s.heap.size ≤ q) s.heap H locs) (hl : lv_has ls 4 [(0, .ref b), (1, .ref (ad 0)), (2, .ref (ad 29)), (3, .int 0)]) : W p l e room_1 s m #[Value.ref b] below meth c H locs 46 5068 (lw_Z below #[Value.ref b] s) (F0 m 413 ls []) := by
  obtain ⟨⟨hx, hb, hr, hml, hown, hts, hX, hbl, hlocks, hgv⟩, hE, had⟩ := id C
  subst hL4
  have hbA : ¬ (fun q : Nat => s.heap.size ≤ q) b := Nat.not_le.mpr hbl
  have hin1 : vp_in ((0 : Int32) + 1) 4 := by unfold vp_in; decide
  have hin2 : vp_in ((0 : Int32) + 2) 4 := by unfold vp_in; decide
  have hin3 : vp_in ((0 : Int32) + 3) 4 := by unfold vp_in; decide
  obtain ⟨r0, hX1, hX2⟩ := pr_about ((xs ((0 : Int32) + 1).toNatClampNeg)) ((xs ((0 : Int32) + 2).toNatClampNeg))
  refine lv_aload_n hx hb dl_413 rfl (lv_at hl 1 rfl) ?_
  refine lv_aload_n hx hb dl_414 rfl (lv_at hl 0 rfl) ?_
  refine lv_iload_n hx hb dl_415 rfl (lv_at hl 3 rfl) ?_
  refine lv_iconst (v := 1) hx hb dl_416 (by decide) ?_
  refine lv_iadd hx hb dl_417 ?_
  refine va_sld hx hb hX hbl hbA hS hin1 dl_418 ?_
  refine lv_aload_n hx hb dl_419 rfl (lv_at hl 0 rfl) ?_
  refine lv_iload_n hx hb dl_420 rfl (lv_at hl 3 rfl) ?_
  refine lv_iconst (v := 2) hx hb dl_421 (by decide) ?_
  refine lv_iadd hx hb dl_422 ?_
  refine va_sld hx hb hX hbl hbA hS hin2 dl_423 ?_
  refine lw_cv (z := 73) (k := 0) (j := 510) (as := [.int (xs ((0 : Int32) + 1).toNatClampNeg), .int (xs ((0 : Int32) + 2).toNatClampNeg)]) (rest := []) C hP hS dl_424 (by decide) (by decide +kernel) (by decide +kernel) (by decide +kernel) rfl (by decide +kernel) (Nat.le_of_ble_eq_true rfl) hl.1 rfl hX1 (fun r ω1 H1 locs1 hq hP1 hS1 => ?_)
  obtain ⟨_, rfl, rfl, hM⟩ := hq
  have hS := hS1
  refine lv_aload_n hx hb dl_427 rfl (lv_at hl 2 rfl) ?_
  refine lv_aload_n hx hb dl_428 rfl (lv_at hl 0 rfl) ?_
  refine lv_iload_n hx hb dl_429 rfl (lv_at hl 3 rfl) ?_
  refine lv_iconst (v := 1) hx hb dl_430 (by decide) ?_
  refine lv_iadd hx hb dl_431 ?_
  refine va_sld hx hb hX hbl hbA hS hin1 dl_432 ?_
  refine lv_aload_n hx hb dl_433 rfl (lv_at hl 0 rfl) ?_
  refine lv_iload_n hx hb dl_434 rfl (lv_at hl 3 rfl) ?_
  refine lv_iconst (v := 2) hx hb dl_435 (by decide) ?_
  refine lv_iadd hx hb dl_436 ?_
  refine va_sld hx hb hX hbl hbA hS hin2 dl_437 ?_
  refine lw_cv (z := 142) (k := 29) (j := 1022) (as := [.int (xs ((0 : Int32) + 1).toNatClampNeg), .int (xs ((0 : Int32) + 2).toNatClampNeg)]) (rest := [.int _]) C hP1 hS1 dl_438 (by decide) (by decide +kernel) (by decide +kernel) (by decide +kernel) rfl (by decide +kernel) (Nat.le_of_ble_eq_true rfl) hl.1 rfl (hX2 ω1 hM) (fun r ω2 H2 locs2 hq hP2 hS2 => ?_)
  obtain ⟨_, rfl, rfl⟩ := hq
  refine lv_icmp_eq (tgt := 841) hx hb dl_441 (by decide) (fun _ => law_end C rfl hS2 hl) (fun cc => absurd rfl cc)
set_option maxRecDepth 100000 in
theorem law_10 {p : Program} {l : Launch} {e : Env} {s : State} {m : MethodId} {below : List Frame} {meth : Method} {c : Code} {b L : Nat} {xs : Nat → Int32} {G : va_G} {cI cJ : ClassId} {ad : Nat → Nat} {H : Heap} {locs : List Loc} {ls : Array Slot} (C : lw_C p s m meth c b L xs G cI cJ ad) (hL4 : L = 4) (hP : va_P G vwCl (me_cc cI cJ ad om0) H) (hS : va_S (fun q => s.heap.size ≤ q) s.heap H locs) (hl : lv_has ls 4 [(0, .ref b), (1, .ref (ad 0)), (2, .ref (ad 29)), (3, .int 0)]) : W p l e room_1 s m #[Value.ref b] below meth c H locs 46 5068 (lw_Z below #[Value.ref b] s) (F0 m 446 ls []) := by
  obtain ⟨⟨hx, hb, hr, hml, hown, hts, hX, hbl, hlocks, hgv⟩, hE, had⟩ := id C
  subst hL4
  have hbA : ¬ (fun q : Nat => s.heap.size ≤ q) b := Nat.not_le.mpr hbl
  have hin1 : vp_in ((0 : Int32) + 1) 4 := by unfold vp_in; decide
  have hin2 : vp_in ((0 : Int32) + 2) 4 := by unfold vp_in; decide
  have hin3 : vp_in ((0 : Int32) + 3) 4 := by unfold vp_in; decide
  obtain ⟨r0, hX1, hX2⟩ := pr_as ((xs ((0 : Int32) + 1).toNatClampNeg)) ((xs ((0 : Int32) + 2).toNatClampNeg))
  refine lv_aload_n hx hb dl_446 rfl (lv_at hl 1 rfl) ?_
  refine lv_aload_n hx hb dl_447 rfl (lv_at hl 0 rfl) ?_
  refine lv_iload_n hx hb dl_448 rfl (lv_at hl 3 rfl) ?_
  refine lv_iconst (v := 1) hx hb dl_449 (by decide) ?_
  refine lv_iadd hx hb dl_450 ?_
  refine va_sld hx hb hX hbl hbA hS hin1 dl_451 ?_
  refine lv_aload_n hx hb dl_452 rfl (lv_at hl 0 rfl) ?_
  refine lv_iload_n hx hb dl_453 rfl (lv_at hl 3 rfl) ?_
  refine lv_iconst (v := 2) hx hb dl_454 (by decide) ?_
  refine lv_iadd hx hb dl_455 ?_
  refine va_sld hx hb hX hbl hbA hS hin2 dl_456 ?_
  refine lw_cv (z := 74) (k := 0) (j := 544) (as := [.int (xs ((0 : Int32) + 1).toNatClampNeg), .int (xs ((0 : Int32) + 2).toNatClampNeg)]) (rest := []) C hP hS dl_457 (by decide) (by decide +kernel) (by decide +kernel) (by decide +kernel) rfl (by decide +kernel) (Nat.le_of_ble_eq_true rfl) hl.1 rfl hX1 (fun r ω1 H1 locs1 hq hP1 hS1 => ?_)
  obtain ⟨_, rfl, rfl, hM⟩ := hq
  have hS := hS1
  refine lv_aload_n hx hb dl_460 rfl (lv_at hl 2 rfl) ?_
  refine lv_aload_n hx hb dl_461 rfl (lv_at hl 0 rfl) ?_
  refine lv_iload_n hx hb dl_462 rfl (lv_at hl 3 rfl) ?_
  refine lv_iconst (v := 1) hx hb dl_463 (by decide) ?_
  refine lv_iadd hx hb dl_464 ?_
  refine va_sld hx hb hX hbl hbA hS hin1 dl_465 ?_
  refine lv_aload_n hx hb dl_466 rfl (lv_at hl 0 rfl) ?_
  refine lv_iload_n hx hb dl_467 rfl (lv_at hl 3 rfl) ?_
  refine lv_iconst (v := 2) hx hb dl_468 (by decide) ?_
  refine lv_iadd hx hb dl_469 ?_
  refine va_sld hx hb hX hbl hbA hS hin2 dl_470 ?_
  refine lw_cv (z := 143) (k := 29) (j := 1040) (as := [.int (xs ((0 : Int32) + 1).toNatClampNeg), .int (xs ((0 : Int32) + 2).toNatClampNeg)]) (rest := [.int _]) C hP1 hS1 dl_471 (by decide) (by decide +kernel) (by decide +kernel) (by decide +kernel) rfl (by decide +kernel) (Nat.le_of_ble_eq_true rfl) hl.1 rfl (hX2 ω1 hM) (fun r ω2 H2 locs2 hq hP2 hS2 => ?_)
  obtain ⟨_, rfl, rfl⟩ := hq
  refine lv_icmp_eq (tgt := 841) hx hb dl_474 (by decide) (fun _ => law_end C rfl hS2 hl) (fun cc => absurd rfl cc)
set_option maxRecDepth 100000 in
theorem law_11 {p : Program} {l : Launch} {e : Env} {s : State} {m : MethodId} {below : List Frame} {meth : Method} {c : Code} {b L : Nat} {xs : Nat → Int32} {G : va_G} {cI cJ : ClassId} {ad : Nat → Nat} {H : Heap} {locs : List Loc} {ls : Array Slot} (C : lw_C p s m meth c b L xs G cI cJ ad) (hL4 : L = 4) (hP : va_P G vwCl (me_cc cI cJ ad om0) H) (hS : va_S (fun q => s.heap.size ≤ q) s.heap H locs) (hl : lv_has ls 4 [(0, .ref b), (1, .ref (ad 0)), (2, .ref (ad 29)), (3, .int 0)]) : W p l e room_1 s m #[Value.ref b] below meth c H locs 46 5068 (lw_Z below #[Value.ref b] s) (F0 m 479 ls []) := by
  obtain ⟨⟨hx, hb, hr, hml, hown, hts, hX, hbl, hlocks, hgv⟩, hE, had⟩ := id C
  subst hL4
  have hbA : ¬ (fun q : Nat => s.heap.size ≤ q) b := Nat.not_le.mpr hbl
  have hin1 : vp_in ((0 : Int32) + 1) 4 := by unfold vp_in; decide
  have hin2 : vp_in ((0 : Int32) + 2) 4 := by unfold vp_in; decide
  have hin3 : vp_in ((0 : Int32) + 3) 4 := by unfold vp_in; decide
  obtain ⟨r0, hX1, hX2⟩ := pr_come ((xs ((0 : Int32) + 1).toNatClampNeg)) ((xs ((0 : Int32) + 2).toNatClampNeg))
  refine lv_aload_n hx hb dl_479 rfl (lv_at hl 1 rfl) ?_
  refine lv_aload_n hx hb dl_480 rfl (lv_at hl 0 rfl) ?_
  refine lv_iload_n hx hb dl_481 rfl (lv_at hl 3 rfl) ?_
  refine lv_iconst (v := 1) hx hb dl_482 (by decide) ?_
  refine lv_iadd hx hb dl_483 ?_
  refine va_sld hx hb hX hbl hbA hS hin1 dl_484 ?_
  refine lv_aload_n hx hb dl_485 rfl (lv_at hl 0 rfl) ?_
  refine lv_iload_n hx hb dl_486 rfl (lv_at hl 3 rfl) ?_
  refine lv_iconst (v := 2) hx hb dl_487 (by decide) ?_
  refine lv_iadd hx hb dl_488 ?_
  refine va_sld hx hb hX hbl hbA hS hin2 dl_489 ?_
  refine lw_cv (z := 75) (k := 0) (j := 552) (as := [.int (xs ((0 : Int32) + 1).toNatClampNeg), .int (xs ((0 : Int32) + 2).toNatClampNeg)]) (rest := []) C hP hS dl_490 (by decide) (by decide +kernel) (by decide +kernel) (by decide +kernel) rfl (by decide +kernel) (Nat.le_of_ble_eq_true rfl) hl.1 rfl hX1 (fun r ω1 H1 locs1 hq hP1 hS1 => ?_)
  obtain ⟨_, rfl, rfl, hM⟩ := hq
  have hS := hS1
  refine lv_aload_n hx hb dl_493 rfl (lv_at hl 2 rfl) ?_
  refine lv_aload_n hx hb dl_494 rfl (lv_at hl 0 rfl) ?_
  refine lv_iload_n hx hb dl_495 rfl (lv_at hl 3 rfl) ?_
  refine lv_iconst (v := 1) hx hb dl_496 (by decide) ?_
  refine lv_iadd hx hb dl_497 ?_
  refine va_sld hx hb hX hbl hbA hS hin1 dl_498 ?_
  refine lv_aload_n hx hb dl_499 rfl (lv_at hl 0 rfl) ?_
  refine lv_iload_n hx hb dl_500 rfl (lv_at hl 3 rfl) ?_
  refine lv_iconst (v := 2) hx hb dl_501 (by decide) ?_
  refine lv_iadd hx hb dl_502 ?_
  refine va_sld hx hb hX hbl hbA hS hin2 dl_503 ?_
  refine lw_cv (z := 148) (k := 29) (j := 1044) (as := [.int (xs ((0 : Int32) + 1).toNatClampNeg), .int (xs ((0 : Int32) + 2).toNatClampNeg)]) (rest := [.int _]) C hP1 hS1 dl_504 (by decide) (by decide +kernel) (by decide +kernel) (by decide +kernel) rfl (by decide +kernel) (Nat.le_of_ble_eq_true rfl) hl.1 rfl (hX2 ω1 hM) (fun r ω2 H2 locs2 hq hP2 hS2 => ?_)
  obtain ⟨_, rfl, rfl⟩ := hq
  refine lv_icmp_eq (tgt := 841) hx hb dl_507 (by decide) (fun _ => law_end C rfl hS2 hl) (fun cc => absurd rfl cc)
set_option maxRecDepth 100000 in
theorem law_12 {p : Program} {l : Launch} {e : Env} {s : State} {m : MethodId} {below : List Frame} {meth : Method} {c : Code} {b L : Nat} {xs : Nat → Int32} {G : va_G} {cI cJ : ClassId} {ad : Nat → Nat} {H : Heap} {locs : List Loc} {ls : Array Slot} (C : lw_C p s m meth c b L xs G cI cJ ad) (hL4 : L = 4) (hP : va_P G vwCl (me_cc cI cJ ad om0) H) (hS : va_S (fun q => s.heap.size ≤ q) s.heap H locs) (hl : lv_has ls 4 [(0, .ref b), (1, .ref (ad 0)), (2, .ref (ad 29)), (3, .int 0)]) : W p l e room_1 s m #[Value.ref b] below meth c H locs 46 5068 (lw_Z below #[Value.ref b] s) (F0 m 512 ls []) := by
  obtain ⟨⟨hx, hb, hr, hml, hown, hts, hX, hbl, hlocks, hgv⟩, hE, had⟩ := id C
  subst hL4
  have hbA : ¬ (fun q : Nat => s.heap.size ≤ q) b := Nat.not_le.mpr hbl
  have hin1 : vp_in ((0 : Int32) + 1) 4 := by unfold vp_in; decide
  have hin2 : vp_in ((0 : Int32) + 2) 4 := by unfold vp_in; decide
  have hin3 : vp_in ((0 : Int32) + 3) 4 := by unfold vp_in; decide
  obtain ⟨r0, hX1, hX2⟩ := pr_evening 
  refine lv_aload_n hx hb dl_512 rfl (lv_at hl 1 rfl) ?_
  refine lw_cv (z := 76) (k := 0) (j := 588) (as := []) (rest := []) C hP hS dl_513 (by decide) (by decide +kernel) (by decide +kernel) (by decide +kernel) rfl (by decide +kernel) (Nat.le_of_ble_eq_true rfl) hl.1 rfl hX1 (fun r ω1 H1 locs1 hq hP1 hS1 => ?_)
  obtain ⟨_, rfl, rfl, hM⟩ := hq
  have hS := hS1
  refine lv_aload_n hx hb dl_516 rfl (lv_at hl 2 rfl) ?_
  refine lw_cv (z := 149) (k := 29) (j := 1064) (as := []) (rest := [.int _]) C hP1 hS1 dl_517 (by decide) (by decide +kernel) (by decide +kernel) (by decide +kernel) rfl (by decide +kernel) (Nat.le_of_ble_eq_true rfl) hl.1 rfl (hX2 ω1 hM) (fun r ω2 H2 locs2 hq hP2 hS2 => ?_)
  obtain ⟨_, rfl, rfl⟩ := hq
  refine lv_icmp_eq (tgt := 841) hx hb dl_520 (by decide) (fun _ => law_end C rfl hS2 hl) (fun cc => absurd rfl cc)
set_option maxRecDepth 100000 in
theorem law_13 {p : Program} {l : Launch} {e : Env} {s : State} {m : MethodId} {below : List Frame} {meth : Method} {c : Code} {b L : Nat} {xs : Nat → Int32} {G : va_G} {cI cJ : ClassId} {ad : Nat → Nat} {H : Heap} {locs : List Loc} {ls : Array Slot} (C : lw_C p s m meth c b L xs G cI cJ ad) (hL4 : L = 4) (hP : va_P G vwCl (me_cc cI cJ ad om0) H) (hS : va_S (fun q => s.heap.size ≤ q) s.heap H locs) (hl : lv_has ls 4 [(0, .ref b), (1, .ref (ad 0)), (2, .ref (ad 29)), (3, .int 0)]) : W p l e room_1 s m #[Value.ref b] below meth c H locs 46 5068 (lw_Z below #[Value.ref b] s) (F0 m 525 ls []) := by
  obtain ⟨⟨hx, hb, hr, hml, hown, hts, hX, hbl, hlocks, hgv⟩, hE, had⟩ := id C
  subst hL4
  have hbA : ¬ (fun q : Nat => s.heap.size ≤ q) b := Nat.not_le.mpr hbl
  have hin1 : vp_in ((0 : Int32) + 1) 4 := by unfold vp_in; decide
  have hin2 : vp_in ((0 : Int32) + 2) 4 := by unfold vp_in; decide
  have hin3 : vp_in ((0 : Int32) + 3) 4 := by unfold vp_in; decide
  obtain ⟨r0, hX1, hX2⟩ := pr_best ((xs ((0 : Int32) + 1).toNatClampNeg))
  refine lv_aload_n hx hb dl_525 rfl (lv_at hl 1 rfl) ?_
  refine lv_aload_n hx hb dl_526 rfl (lv_at hl 0 rfl) ?_
  refine lv_iload_n hx hb dl_527 rfl (lv_at hl 3 rfl) ?_
  refine lv_iconst (v := 1) hx hb dl_528 (by decide) ?_
  refine lv_iadd hx hb dl_529 ?_
  refine va_sld hx hb hX hbl hbA hS hin1 dl_530 ?_
  refine lw_cv (z := 77) (k := 0) (j := 592) (as := [.int (xs ((0 : Int32) + 1).toNatClampNeg)]) (rest := []) C hP hS dl_531 (by decide) (by decide +kernel) (by decide +kernel) (by decide +kernel) rfl (by decide +kernel) (Nat.le_of_ble_eq_true rfl) hl.1 rfl hX1 (fun r ω1 H1 locs1 hq hP1 hS1 => ?_)
  obtain ⟨_, rfl, rfl, hM⟩ := hq
  have hS := hS1
  refine lv_aload_n hx hb dl_534 rfl (lv_at hl 2 rfl) ?_
  refine lv_aload_n hx hb dl_535 rfl (lv_at hl 0 rfl) ?_
  refine lv_iload_n hx hb dl_536 rfl (lv_at hl 3 rfl) ?_
  refine lv_iconst (v := 1) hx hb dl_537 (by decide) ?_
  refine lv_iadd hx hb dl_538 ?_
  refine va_sld hx hb hX hbl hbA hS hin1 dl_539 ?_
  refine lw_cv (z := 155) (k := 29) (j := 1068) (as := [.int (xs ((0 : Int32) + 1).toNatClampNeg)]) (rest := [.long _]) C hP1 hS1 dl_540 (by decide) (by decide +kernel) (by decide +kernel) (by decide +kernel) rfl (by decide +kernel) (Nat.le_of_ble_eq_true rfl) hl.1 rfl (hX2 ω1 hM) (fun r ω2 H2 locs2 hq hP2 hS2 => ?_)
  obtain ⟨_, rfl, rfl⟩ := hq
  refine W.lcmp hx hb dl_543 ?_
  refine lv_if_eq (tgt := 841) hx hb dl_544 (by decide) (fun _ => law_end C rfl hS2 hl) (fun cc => absurd (lc_eq _) cc)
set_option maxRecDepth 100000 in
theorem law_14 {p : Program} {l : Launch} {e : Env} {s : State} {m : MethodId} {below : List Frame} {meth : Method} {c : Code} {b L : Nat} {xs : Nat → Int32} {G : va_G} {cI cJ : ClassId} {ad : Nat → Nat} {H : Heap} {locs : List Loc} {ls : Array Slot} (C : lw_C p s m meth c b L xs G cI cJ ad) (hL4 : L = 4) (hP : va_P G vwCl (me_cc cI cJ ad om0) H) (hS : va_S (fun q => s.heap.size ≤ q) s.heap H locs) (hl : lv_has ls 4 [(0, .ref b), (1, .ref (ad 0)), (2, .ref (ad 29)), (3, .int 0)]) : W p l e room_1 s m #[Value.ref b] below meth c H locs 46 5068 (lw_Z below #[Value.ref b] s) (F0 m 549 ls []) := by
  obtain ⟨⟨hx, hb, hr, hml, hown, hts, hX, hbl, hlocks, hgv⟩, hE, had⟩ := id C
  subst hL4
  have hbA : ¬ (fun q : Nat => s.heap.size ≤ q) b := Nat.not_le.mpr hbl
  have hin1 : vp_in ((0 : Int32) + 1) 4 := by unfold vp_in; decide
  have hin2 : vp_in ((0 : Int32) + 2) 4 := by unfold vp_in; decide
  have hin3 : vp_in ((0 : Int32) + 3) 4 := by unfold vp_in; decide
  obtain ⟨r0, hX1, hX2⟩ := pr_whom ((xs ((0 : Int32) + 1).toNatClampNeg))
  refine lv_aload_n hx hb dl_549 rfl (lv_at hl 1 rfl) ?_
  refine lv_aload_n hx hb dl_550 rfl (lv_at hl 0 rfl) ?_
  refine lv_iload_n hx hb dl_551 rfl (lv_at hl 3 rfl) ?_
  refine lv_iconst (v := 1) hx hb dl_552 (by decide) ?_
  refine lv_iadd hx hb dl_553 ?_
  refine va_sld hx hb hX hbl hbA hS hin1 dl_554 ?_
  refine lw_cv (z := 78) (k := 0) (j := 663) (as := [.int (xs ((0 : Int32) + 1).toNatClampNeg)]) (rest := []) C hP hS dl_555 (by decide) (by decide +kernel) (by decide +kernel) (by decide +kernel) rfl (by decide +kernel) (Nat.le_of_ble_eq_true rfl) hl.1 rfl hX1 (fun r ω1 H1 locs1 hq hP1 hS1 => ?_)
  obtain ⟨_, rfl, rfl, hM⟩ := hq
  have hS := hS1
  refine lv_aload_n hx hb dl_558 rfl (lv_at hl 2 rfl) ?_
  refine lv_aload_n hx hb dl_559 rfl (lv_at hl 0 rfl) ?_
  refine lv_iload_n hx hb dl_560 rfl (lv_at hl 3 rfl) ?_
  refine lv_iconst (v := 1) hx hb dl_561 (by decide) ?_
  refine lv_iadd hx hb dl_562 ?_
  refine va_sld hx hb hX hbl hbA hS hin1 dl_563 ?_
  refine lw_cv (z := 156) (k := 29) (j := 1091) (as := [.int (xs ((0 : Int32) + 1).toNatClampNeg)]) (rest := [.int _]) C hP1 hS1 dl_564 (by decide) (by decide +kernel) (by decide +kernel) (by decide +kernel) rfl (by decide +kernel) (Nat.le_of_ble_eq_true rfl) hl.1 rfl (hX2 ω1 hM) (fun r ω2 H2 locs2 hq hP2 hS2 => ?_)
  obtain ⟨_, rfl, rfl⟩ := hq
  refine lv_icmp_eq (tgt := 841) hx hb dl_567 (by decide) (fun _ => law_end C rfl hS2 hl) (fun cc => absurd rfl cc)
set_option maxRecDepth 100000 in
theorem law_15 {p : Program} {l : Launch} {e : Env} {s : State} {m : MethodId} {below : List Frame} {meth : Method} {c : Code} {b L : Nat} {xs : Nat → Int32} {G : va_G} {cI cJ : ClassId} {ad : Nat → Nat} {H : Heap} {locs : List Loc} {ls : Array Slot} (C : lw_C p s m meth c b L xs G cI cJ ad) (hL4 : L = 4) (hP : va_P G vwCl (me_cc cI cJ ad om0) H) (hS : va_S (fun q => s.heap.size ≤ q) s.heap H locs) (hl : lv_has ls 4 [(0, .ref b), (1, .ref (ad 0)), (2, .ref (ad 29)), (3, .int 0)]) : W p l e room_1 s m #[Value.ref b] below meth c H locs 46 5068 (lw_Z below #[Value.ref b] s) (F0 m 572 ls []) := by
  obtain ⟨⟨hx, hb, hr, hml, hown, hts, hX, hbl, hlocks, hgv⟩, hE, had⟩ := id C
  subst hL4
  have hbA : ¬ (fun q : Nat => s.heap.size ≤ q) b := Nat.not_le.mpr hbl
  have hin1 : vp_in ((0 : Int32) + 1) 4 := by unfold vp_in; decide
  have hin2 : vp_in ((0 : Int32) + 2) 4 := by unfold vp_in; decide
  have hin3 : vp_in ((0 : Int32) + 3) 4 := by unfold vp_in; decide
  obtain ⟨r0, hX1, hX2⟩ := pr_worst 
  refine lv_aload_n hx hb dl_572 rfl (lv_at hl 1 rfl) ?_
  refine lw_cv (z := 79) (k := 0) (j := 671) (as := []) (rest := []) C hP hS dl_573 (by decide) (by decide +kernel) (by decide +kernel) (by decide +kernel) rfl (by decide +kernel) (Nat.le_of_ble_eq_true rfl) hl.1 rfl hX1 (fun r ω1 H1 locs1 hq hP1 hS1 => ?_)
  obtain ⟨_, rfl, rfl, hM⟩ := hq
  have hS := hS1
  refine lv_aload_n hx hb dl_576 rfl (lv_at hl 2 rfl) ?_
  refine lw_cv (z := 158) (k := 29) (j := 1095) (as := []) (rest := [.int _]) C hP1 hS1 dl_577 (by decide) (by decide +kernel) (by decide +kernel) (by decide +kernel) rfl (by decide +kernel) (Nat.le_of_ble_eq_true rfl) hl.1 rfl (hX2 ω1 hM) (fun r ω2 H2 locs2 hq hP2 hS2 => ?_)
  obtain ⟨_, rfl, rfl⟩ := hq
  refine lv_icmp_eq (tgt := 841) hx hb dl_580 (by decide) (fun _ => law_end C rfl hS2 hl) (fun cc => absurd rfl cc)
set_option maxRecDepth 100000 in
theorem law_16 {p : Program} {l : Launch} {e : Env} {s : State} {m : MethodId} {below : List Frame} {meth : Method} {c : Code} {b L : Nat} {xs : Nat → Int32} {G : va_G} {cI cJ : ClassId} {ad : Nat → Nat} {H : Heap} {locs : List Loc} {ls : Array Slot} (C : lw_C p s m meth c b L xs G cI cJ ad) (hL4 : L = 4) (hP : va_P G vwCl (me_cc cI cJ ad om0) H) (hS : va_S (fun q => s.heap.size ≤ q) s.heap H locs) (hl : lv_has ls 4 [(0, .ref b), (1, .ref (ad 0)), (2, .ref (ad 29)), (3, .int 0)]) : W p l e room_1 s m #[Value.ref b] below meth c H locs 46 5068 (lw_Z below #[Value.ref b] s) (F0 m 585 ls []) := by
  obtain ⟨⟨hx, hb, hr, hml, hown, hts, hX, hbl, hlocks, hgv⟩, hE, had⟩ := id C
  subst hL4
  have hbA : ¬ (fun q : Nat => s.heap.size ≤ q) b := Nat.not_le.mpr hbl
  have hin1 : vp_in ((0 : Int32) + 1) 4 := by unfold vp_in; decide
  have hin2 : vp_in ((0 : Int32) + 2) 4 := by unfold vp_in; decide
  have hin3 : vp_in ((0 : Int32) + 3) 4 := by unfold vp_in; decide
  obtain ⟨r0, hX1, hX2⟩ := pr_known ((xs ((0 : Int32) + 1).toNatClampNeg))
  refine lv_aload_n hx hb dl_585 rfl (lv_at hl 1 rfl) ?_
  refine lv_aload_n hx hb dl_586 rfl (lv_at hl 0 rfl) ?_
  refine lv_iload_n hx hb dl_587 rfl (lv_at hl 3 rfl) ?_
  refine lv_iconst (v := 1) hx hb dl_588 (by decide) ?_
  refine lv_iadd hx hb dl_589 ?_
  refine va_sld hx hb hX hbl hbA hS hin1 dl_590 ?_
  refine lw_cv (z := 80) (k := 0) (j := 687) (as := [.int (xs ((0 : Int32) + 1).toNatClampNeg)]) (rest := []) C hP hS dl_591 (by decide) (by decide +kernel) (by decide +kernel) (by decide +kernel) rfl (by decide +kernel) (Nat.le_of_ble_eq_true rfl) hl.1 rfl hX1 (fun r ω1 H1 locs1 hq hP1 hS1 => ?_)
  obtain ⟨_, rfl, rfl, hM⟩ := hq
  have hS := hS1
  refine lv_aload_n hx hb dl_594 rfl (lv_at hl 2 rfl) ?_
  refine lv_aload_n hx hb dl_595 rfl (lv_at hl 0 rfl) ?_
  refine lv_iload_n hx hb dl_596 rfl (lv_at hl 3 rfl) ?_
  refine lv_iconst (v := 1) hx hb dl_597 (by decide) ?_
  refine lv_iadd hx hb dl_598 ?_
  refine va_sld hx hb hX hbl hbA hS hin1 dl_599 ?_
  refine lw_cv (z := 162) (k := 29) (j := 1104) (as := [.int (xs ((0 : Int32) + 1).toNatClampNeg)]) (rest := [.int _]) C hP1 hS1 dl_600 (by decide) (by decide +kernel) (by decide +kernel) (by decide +kernel) rfl (by decide +kernel) (Nat.le_of_ble_eq_true rfl) hl.1 rfl (hX2 ω1 hM) (fun r ω2 H2 locs2 hq hP2 hS2 => ?_)
  obtain ⟨_, rfl, rfl⟩ := hq
  refine lv_icmp_eq (tgt := 841) hx hb dl_603 (by decide) (fun _ => law_end C rfl hS2 hl) (fun cc => absurd rfl cc)
set_option maxRecDepth 100000 in
theorem law_17 {p : Program} {l : Launch} {e : Env} {s : State} {m : MethodId} {below : List Frame} {meth : Method} {c : Code} {b L : Nat} {xs : Nat → Int32} {G : va_G} {cI cJ : ClassId} {ad : Nat → Nat} {H : Heap} {locs : List Loc} {ls : Array Slot} (C : lw_C p s m meth c b L xs G cI cJ ad) (hL4 : L = 4) (hP : va_P G vwCl (me_cc cI cJ ad om0) H) (hS : va_S (fun q => s.heap.size ≤ q) s.heap H locs) (hl : lv_has ls 4 [(0, .ref b), (1, .ref (ad 0)), (2, .ref (ad 29)), (3, .int 0)]) : W p l e room_1 s m #[Value.ref b] below meth c H locs 46 5068 (lw_Z below #[Value.ref b] s) (F0 m 608 ls []) := by
  obtain ⟨⟨hx, hb, hr, hml, hown, hts, hX, hbl, hlocks, hgv⟩, hE, had⟩ := id C
  subst hL4
  have hbA : ¬ (fun q : Nat => s.heap.size ≤ q) b := Nat.not_le.mpr hbl
  have hin1 : vp_in ((0 : Int32) + 1) 4 := by unfold vp_in; decide
  have hin2 : vp_in ((0 : Int32) + 2) 4 := by unfold vp_in; decide
  have hin3 : vp_in ((0 : Int32) + 3) 4 := by unfold vp_in; decide
  obtain ⟨r0, hX1, hX2⟩ := pr_byRule ((xs ((0 : Int32) + 1).toNatClampNeg))
  refine lv_aload_n hx hb dl_608 rfl (lv_at hl 1 rfl) ?_
  refine lv_aload_n hx hb dl_609 rfl (lv_at hl 0 rfl) ?_
  refine lv_iload_n hx hb dl_610 rfl (lv_at hl 3 rfl) ?_
  refine lv_iconst (v := 1) hx hb dl_611 (by decide) ?_
  refine lv_iadd hx hb dl_612 ?_
  refine va_sld hx hb hX hbl hbA hS hin1 dl_613 ?_
  refine lw_cv (z := 81) (k := 0) (j := 703) (as := [.int (xs ((0 : Int32) + 1).toNatClampNeg)]) (rest := []) C hP hS dl_614 (by decide) (by decide +kernel) (by decide +kernel) (by decide +kernel) rfl (by decide +kernel) (Nat.le_of_ble_eq_true rfl) hl.1 rfl hX1 (fun r ω1 H1 locs1 hq hP1 hS1 => ?_)
  obtain ⟨_, rfl, rfl, hM⟩ := hq
  have hS := hS1
  refine lv_aload_n hx hb dl_617 rfl (lv_at hl 2 rfl) ?_
  refine lv_aload_n hx hb dl_618 rfl (lv_at hl 0 rfl) ?_
  refine lv_iload_n hx hb dl_619 rfl (lv_at hl 3 rfl) ?_
  refine lv_iconst (v := 1) hx hb dl_620 (by decide) ?_
  refine lv_iadd hx hb dl_621 ?_
  refine va_sld hx hb hX hbl hbA hS hin1 dl_622 ?_
  refine lw_cv (z := 165) (k := 29) (j := 1118) (as := [.int (xs ((0 : Int32) + 1).toNatClampNeg)]) (rest := [.long _]) C hP1 hS1 dl_623 (by decide) (by decide +kernel) (by decide +kernel) (by decide +kernel) rfl (by decide +kernel) (Nat.le_of_ble_eq_true rfl) hl.1 rfl (hX2 ω1 hM) (fun r ω2 H2 locs2 hq hP2 hS2 => ?_)
  obtain ⟨_, rfl, rfl⟩ := hq
  refine W.lcmp hx hb dl_626 ?_
  refine lv_if_eq (tgt := 841) hx hb dl_627 (by decide) (fun _ => law_end C rfl hS2 hl) (fun cc => absurd (lc_eq _) cc)
set_option maxRecDepth 100000 in
theorem law_18 {p : Program} {l : Launch} {e : Env} {s : State} {m : MethodId} {below : List Frame} {meth : Method} {c : Code} {b L : Nat} {xs : Nat → Int32} {G : va_G} {cI cJ : ClassId} {ad : Nat → Nat} {H : Heap} {locs : List Loc} {ls : Array Slot} (C : lw_C p s m meth c b L xs G cI cJ ad) (hL4 : L = 4) (hP : va_P G vwCl (me_cc cI cJ ad om0) H) (hS : va_S (fun q => s.heap.size ≤ q) s.heap H locs) (hl : lv_has ls 4 [(0, .ref b), (1, .ref (ad 0)), (2, .ref (ad 29)), (3, .int 0)]) : W p l e room_1 s m #[Value.ref b] below meth c H locs 46 5068 (lw_Z below #[Value.ref b] s) (F0 m 632 ls []) := by
  obtain ⟨⟨hx, hb, hr, hml, hown, hts, hX, hbl, hlocks, hgv⟩, hE, had⟩ := id C
  subst hL4
  have hbA : ¬ (fun q : Nat => s.heap.size ≤ q) b := Nat.not_le.mpr hbl
  have hin1 : vp_in ((0 : Int32) + 1) 4 := by unfold vp_in; decide
  have hin2 : vp_in ((0 : Int32) + 2) 4 := by unfold vp_in; decide
  have hin3 : vp_in ((0 : Int32) + 3) 4 := by unfold vp_in; decide
  obtain ⟨r0, hX1, hX2⟩ := pr_worth ((xs ((0 : Int32) + 1).toNatClampNeg)) ((xs ((0 : Int32) + 2).toNatClampNeg))
  refine lv_aload_n hx hb dl_632 rfl (lv_at hl 1 rfl) ?_
  refine lv_aload_n hx hb dl_633 rfl (lv_at hl 0 rfl) ?_
  refine lv_iload_n hx hb dl_634 rfl (lv_at hl 3 rfl) ?_
  refine lv_iconst (v := 1) hx hb dl_635 (by decide) ?_
  refine lv_iadd hx hb dl_636 ?_
  refine va_sld hx hb hX hbl hbA hS hin1 dl_637 ?_
  refine lv_aload_n hx hb dl_638 rfl (lv_at hl 0 rfl) ?_
  refine lv_iload_n hx hb dl_639 rfl (lv_at hl 3 rfl) ?_
  refine lv_iconst (v := 2) hx hb dl_640 (by decide) ?_
  refine lv_iadd hx hb dl_641 ?_
  refine va_sld hx hb hX hbl hbA hS hin2 dl_642 ?_
  refine lw_cv (z := 82) (k := 0) (j := 728) (as := [.int (xs ((0 : Int32) + 1).toNatClampNeg), .int (xs ((0 : Int32) + 2).toNatClampNeg)]) (rest := []) C hP hS dl_643 (by decide) (by decide +kernel) (by decide +kernel) (by decide +kernel) rfl (by decide +kernel) (Nat.le_of_ble_eq_true rfl) hl.1 rfl hX1 (fun r ω1 H1 locs1 hq hP1 hS1 => ?_)
  obtain ⟨_, rfl, rfl, hM⟩ := hq
  have hS := hS1
  refine lv_aload_n hx hb dl_646 rfl (lv_at hl 2 rfl) ?_
  refine lv_aload_n hx hb dl_647 rfl (lv_at hl 0 rfl) ?_
  refine lv_iload_n hx hb dl_648 rfl (lv_at hl 3 rfl) ?_
  refine lv_iconst (v := 1) hx hb dl_649 (by decide) ?_
  refine lv_iadd hx hb dl_650 ?_
  refine va_sld hx hb hX hbl hbA hS hin1 dl_651 ?_
  refine lv_aload_n hx hb dl_652 rfl (lv_at hl 0 rfl) ?_
  refine lv_iload_n hx hb dl_653 rfl (lv_at hl 3 rfl) ?_
  refine lv_iconst (v := 2) hx hb dl_654 (by decide) ?_
  refine lv_iadd hx hb dl_655 ?_
  refine va_sld hx hb hX hbl hbA hS hin2 dl_656 ?_
  refine lw_cv (z := 166) (k := 29) (j := 1131) (as := [.int (xs ((0 : Int32) + 1).toNatClampNeg), .int (xs ((0 : Int32) + 2).toNatClampNeg)]) (rest := [.long _]) C hP1 hS1 dl_657 (by decide) (by decide +kernel) (by decide +kernel) (by decide +kernel) rfl (by decide +kernel) (Nat.le_of_ble_eq_true rfl) hl.1 rfl (hX2 ω1 hM) (fun r ω2 H2 locs2 hq hP2 hS2 => ?_)
  obtain ⟨_, rfl, rfl⟩ := hq
  refine W.lcmp hx hb dl_660 ?_
  refine lv_if_eq (tgt := 841) hx hb dl_661 (by decide) (fun _ => law_end C rfl hS2 hl) (fun cc => absurd (lc_eq _) cc)
set_option maxRecDepth 100000 in
theorem law_19 {p : Program} {l : Launch} {e : Env} {s : State} {m : MethodId} {below : List Frame} {meth : Method} {c : Code} {b L : Nat} {xs : Nat → Int32} {G : va_G} {cI cJ : ClassId} {ad : Nat → Nat} {H : Heap} {locs : List Loc} {ls : Array Slot} (C : lw_C p s m meth c b L xs G cI cJ ad) (hL4 : L = 4) (hP : va_P G vwCl (me_cc cI cJ ad om0) H) (hS : va_S (fun q => s.heap.size ≤ q) s.heap H locs) (hl : lv_has ls 4 [(0, .ref b), (1, .ref (ad 0)), (2, .ref (ad 29)), (3, .int 0)]) : W p l e room_1 s m #[Value.ref b] below meth c H locs 46 5068 (lw_Z below #[Value.ref b] s) (F0 m 666 ls []) := by
  obtain ⟨⟨hx, hb, hr, hml, hown, hts, hX, hbl, hlocks, hgv⟩, hE, had⟩ := id C
  subst hL4
  have hbA : ¬ (fun q : Nat => s.heap.size ≤ q) b := Nat.not_le.mpr hbl
  have hin1 : vp_in ((0 : Int32) + 1) 4 := by unfold vp_in; decide
  have hin2 : vp_in ((0 : Int32) + 2) 4 := by unfold vp_in; decide
  have hin3 : vp_in ((0 : Int32) + 3) 4 := by unfold vp_in; decide
  obtain ⟨r0, hX1, hX2⟩ := pr_roster ((xs ((0 : Int32) + 1).toNatClampNeg))
  refine lv_aload_n hx hb dl_666 rfl (lv_at hl 1 rfl) ?_
  refine lv_aload_n hx hb dl_667 rfl (lv_at hl 0 rfl) ?_
  refine lv_iload_n hx hb dl_668 rfl (lv_at hl 3 rfl) ?_
  refine lv_iconst (v := 1) hx hb dl_669 (by decide) ?_
  refine lv_iadd hx hb dl_670 ?_
  refine va_sld hx hb hX hbl hbA hS hin1 dl_671 ?_
  refine lw_cv (z := 83) (k := 0) (j := 733) (as := [.int (xs ((0 : Int32) + 1).toNatClampNeg)]) (rest := []) C hP hS dl_672 (by decide) (by decide +kernel) (by decide +kernel) (by decide +kernel) rfl (by decide +kernel) (Nat.le_of_ble_eq_true rfl) hl.1 rfl hX1 (fun r ω1 H1 locs1 hq hP1 hS1 => ?_)
  obtain ⟨_, rfl, rfl, hM⟩ := hq
  have hS := hS1
  refine lv_aload_n hx hb dl_675 rfl (lv_at hl 2 rfl) ?_
  refine lv_aload_n hx hb dl_676 rfl (lv_at hl 0 rfl) ?_
  refine lv_iload_n hx hb dl_677 rfl (lv_at hl 3 rfl) ?_
  refine lv_iconst (v := 1) hx hb dl_678 (by decide) ?_
  refine lv_iadd hx hb dl_679 ?_
  refine va_sld hx hb hX hbl hbA hS hin1 dl_680 ?_
  refine lw_cv (z := 168) (k := 29) (j := 1136) (as := [.int (xs ((0 : Int32) + 1).toNatClampNeg)]) (rest := [.int _]) C hP1 hS1 dl_681 (by decide) (by decide +kernel) (by decide +kernel) (by decide +kernel) rfl (by decide +kernel) (Nat.le_of_ble_eq_true rfl) hl.1 rfl (hX2 ω1 hM) (fun r ω2 H2 locs2 hq hP2 hS2 => ?_)
  obtain ⟨_, rfl, rfl⟩ := hq
  refine lv_icmp_eq (tgt := 841) hx hb dl_684 (by decide) (fun _ => law_end C rfl hS2 hl) (fun cc => absurd rfl cc)
set_option maxRecDepth 100000 in
theorem law_20 {p : Program} {l : Launch} {e : Env} {s : State} {m : MethodId} {below : List Frame} {meth : Method} {c : Code} {b L : Nat} {xs : Nat → Int32} {G : va_G} {cI cJ : ClassId} {ad : Nat → Nat} {H : Heap} {locs : List Loc} {ls : Array Slot} (C : lw_C p s m meth c b L xs G cI cJ ad) (hL4 : L = 4) (hP : va_P G vwCl (me_cc cI cJ ad om0) H) (hS : va_S (fun q => s.heap.size ≤ q) s.heap H locs) (hl : lv_has ls 4 [(0, .ref b), (1, .ref (ad 0)), (2, .ref (ad 29)), (3, .int 0)]) : W p l e room_1 s m #[Value.ref b] below meth c H locs 46 5068 (lw_Z below #[Value.ref b] s) (F0 m 689 ls []) := by
  obtain ⟨⟨hx, hb, hr, hml, hown, hts, hX, hbl, hlocks, hgv⟩, hE, had⟩ := id C
  subst hL4
  have hbA : ¬ (fun q : Nat => s.heap.size ≤ q) b := Nat.not_le.mpr hbl
  have hin1 : vp_in ((0 : Int32) + 1) 4 := by unfold vp_in; decide
  have hin2 : vp_in ((0 : Int32) + 2) 4 := by unfold vp_in; decide
  have hin3 : vp_in ((0 : Int32) + 3) 4 := by unfold vp_in; decide
  obtain ⟨r0, hX1, hX2⟩ := pr_seen ((xs ((0 : Int32) + 1).toNatClampNeg))
  refine lv_aload_n hx hb dl_689 rfl (lv_at hl 1 rfl) ?_
  refine lv_aload_n hx hb dl_690 rfl (lv_at hl 0 rfl) ?_
  refine lv_iload_n hx hb dl_691 rfl (lv_at hl 3 rfl) ?_
  refine lv_iconst (v := 1) hx hb dl_692 (by decide) ?_
  refine lv_iadd hx hb dl_693 ?_
  refine va_sld hx hb hX hbl hbA hS hin1 dl_694 ?_
  refine lw_cv (z := 84) (k := 0) (j := 746) (as := [.int (xs ((0 : Int32) + 1).toNatClampNeg)]) (rest := []) C hP hS dl_695 (by decide) (by decide +kernel) (by decide +kernel) (by decide +kernel) rfl (by decide +kernel) (Nat.le_of_ble_eq_true rfl) hl.1 rfl hX1 (fun r ω1 H1 locs1 hq hP1 hS1 => ?_)
  obtain ⟨_, rfl, rfl, hM⟩ := hq
  have hS := hS1
  refine lv_aload_n hx hb dl_698 rfl (lv_at hl 2 rfl) ?_
  refine lv_aload_n hx hb dl_699 rfl (lv_at hl 0 rfl) ?_
  refine lv_iload_n hx hb dl_700 rfl (lv_at hl 3 rfl) ?_
  refine lv_iconst (v := 1) hx hb dl_701 (by decide) ?_
  refine lv_iadd hx hb dl_702 ?_
  refine va_sld hx hb hX hbl hbA hS hin1 dl_703 ?_
  refine lw_cv (z := 172) (k := 29) (j := 1145) (as := [.int (xs ((0 : Int32) + 1).toNatClampNeg)]) (rest := [.int _]) C hP1 hS1 dl_704 (by decide) (by decide +kernel) (by decide +kernel) (by decide +kernel) rfl (by decide +kernel) (Nat.le_of_ble_eq_true rfl) hl.1 rfl (hX2 ω1 hM) (fun r ω2 H2 locs2 hq hP2 hS2 => ?_)
  obtain ⟨_, rfl, rfl⟩ := hq
  refine lv_icmp_eq (tgt := 841) hx hb dl_707 (by decide) (fun _ => law_end C rfl hS2 hl) (fun cc => absurd rfl cc)
set_option maxRecDepth 100000 in
theorem law_21 {p : Program} {l : Launch} {e : Env} {s : State} {m : MethodId} {below : List Frame} {meth : Method} {c : Code} {b L : Nat} {xs : Nat → Int32} {G : va_G} {cI cJ : ClassId} {ad : Nat → Nat} {H : Heap} {locs : List Loc} {ls : Array Slot} (C : lw_C p s m meth c b L xs G cI cJ ad) (hL4 : L = 4) (hP : va_P G vwCl (me_cc cI cJ ad om0) H) (hS : va_S (fun q => s.heap.size ≤ q) s.heap H locs) (hl : lv_has ls 4 [(0, .ref b), (1, .ref (ad 0)), (2, .ref (ad 29)), (3, .int 0)]) : W p l e room_1 s m #[Value.ref b] below meth c H locs 46 5068 (lw_Z below #[Value.ref b] s) (F0 m 712 ls []) := by
  obtain ⟨⟨hx, hb, hr, hml, hown, hts, hX, hbl, hlocks, hgv⟩, hE, had⟩ := id C
  subst hL4
  have hbA : ¬ (fun q : Nat => s.heap.size ≤ q) b := Nat.not_le.mpr hbl
  have hin1 : vp_in ((0 : Int32) + 1) 4 := by unfold vp_in; decide
  have hin2 : vp_in ((0 : Int32) + 2) 4 := by unfold vp_in; decide
  have hin3 : vp_in ((0 : Int32) + 3) 4 := by unfold vp_in; decide
  obtain ⟨r0, hX1, hX2⟩ := pr_sure ((xs ((0 : Int32) + 1).toNatClampNeg)) ((xs ((0 : Int32) + 2).toNatClampNeg))
  refine lv_aload_n hx hb dl_712 rfl (lv_at hl 1 rfl) ?_
  refine lv_aload_n hx hb dl_713 rfl (lv_at hl 0 rfl) ?_
  refine lv_iload_n hx hb dl_714 rfl (lv_at hl 3 rfl) ?_
  refine lv_iconst (v := 1) hx hb dl_715 (by decide) ?_
  refine lv_iadd hx hb dl_716 ?_
  refine va_sld hx hb hX hbl hbA hS hin1 dl_717 ?_
  refine lv_aload_n hx hb dl_718 rfl (lv_at hl 0 rfl) ?_
  refine lv_iload_n hx hb dl_719 rfl (lv_at hl 3 rfl) ?_
  refine lv_iconst (v := 2) hx hb dl_720 (by decide) ?_
  refine lv_iadd hx hb dl_721 ?_
  refine va_sld hx hb hX hbl hbA hS hin2 dl_722 ?_
  refine lw_cv (z := 85) (k := 0) (j := 763) (as := [.int (xs ((0 : Int32) + 1).toNatClampNeg), .int (xs ((0 : Int32) + 2).toNatClampNeg)]) (rest := []) C hP hS dl_723 (by decide) (by decide +kernel) (by decide +kernel) (by decide +kernel) rfl (by decide +kernel) (Nat.le_of_ble_eq_true rfl) hl.1 rfl hX1 (fun r ω1 H1 locs1 hq hP1 hS1 => ?_)
  obtain ⟨_, rfl, rfl, hM⟩ := hq
  have hS := hS1
  refine lv_aload_n hx hb dl_726 rfl (lv_at hl 2 rfl) ?_
  refine lv_aload_n hx hb dl_727 rfl (lv_at hl 0 rfl) ?_
  refine lv_iload_n hx hb dl_728 rfl (lv_at hl 3 rfl) ?_
  refine lv_iconst (v := 1) hx hb dl_729 (by decide) ?_
  refine lv_iadd hx hb dl_730 ?_
  refine va_sld hx hb hX hbl hbA hS hin1 dl_731 ?_
  refine lv_aload_n hx hb dl_732 rfl (lv_at hl 0 rfl) ?_
  refine lv_iload_n hx hb dl_733 rfl (lv_at hl 3 rfl) ?_
  refine lv_iconst (v := 2) hx hb dl_734 (by decide) ?_
  refine lv_iadd hx hb dl_735 ?_
  refine va_sld hx hb hX hbl hbA hS hin2 dl_736 ?_
  refine lw_cv (z := 173) (k := 29) (j := 1161) (as := [.int (xs ((0 : Int32) + 1).toNatClampNeg), .int (xs ((0 : Int32) + 2).toNatClampNeg)]) (rest := [.int _]) C hP1 hS1 dl_737 (by decide) (by decide +kernel) (by decide +kernel) (by decide +kernel) rfl (by decide +kernel) (Nat.le_of_ble_eq_true rfl) hl.1 rfl (hX2 ω1 hM) (fun r ω2 H2 locs2 hq hP2 hS2 => ?_)
  obtain ⟨_, rfl, rfl⟩ := hq
  refine lv_icmp_eq (tgt := 841) hx hb dl_740 (by decide) (fun _ => law_end C rfl hS2 hl) (fun cc => absurd rfl cc)
set_option maxRecDepth 100000 in
theorem law_22 {p : Program} {l : Launch} {e : Env} {s : State} {m : MethodId} {below : List Frame} {meth : Method} {c : Code} {b L : Nat} {xs : Nat → Int32} {G : va_G} {cI cJ : ClassId} {ad : Nat → Nat} {H : Heap} {locs : List Loc} {ls : Array Slot} (C : lw_C p s m meth c b L xs G cI cJ ad) (hL4 : L = 4) (hP : va_P G vwCl (me_cc cI cJ ad om0) H) (hS : va_S (fun q => s.heap.size ≤ q) s.heap H locs) (hl : lv_has ls 4 [(0, .ref b), (1, .ref (ad 0)), (2, .ref (ad 29)), (3, .int 0)]) : W p l e room_1 s m #[Value.ref b] below meth c H locs 46 5068 (lw_Z below #[Value.ref b] s) (F0 m 745 ls []) := by
  obtain ⟨⟨hx, hb, hr, hml, hown, hts, hX, hbl, hlocks, hgv⟩, hE, had⟩ := id C
  subst hL4
  have hbA : ¬ (fun q : Nat => s.heap.size ≤ q) b := Nat.not_le.mpr hbl
  have hin1 : vp_in ((0 : Int32) + 1) 4 := by unfold vp_in; decide
  have hin2 : vp_in ((0 : Int32) + 2) 4 := by unfold vp_in; decide
  have hin3 : vp_in ((0 : Int32) + 3) 4 := by unfold vp_in; decide
  obtain ⟨r0, hX1, hX2⟩ := pr_night ((xs ((0 : Int32) + 1).toNatClampNeg)) ((xs ((0 : Int32) + 2).toNatClampNeg))
  refine lv_aload_n hx hb dl_745 rfl (lv_at hl 1 rfl) ?_
  refine lv_aload_n hx hb dl_746 rfl (lv_at hl 0 rfl) ?_
  refine lv_iload_n hx hb dl_747 rfl (lv_at hl 3 rfl) ?_
  refine lv_iconst (v := 1) hx hb dl_748 (by decide) ?_
  refine lv_iadd hx hb dl_749 ?_
  refine va_sld hx hb hX hbl hbA hS hin1 dl_750 ?_
  refine lv_aload_n hx hb dl_751 rfl (lv_at hl 0 rfl) ?_
  refine lv_iload_n hx hb dl_752 rfl (lv_at hl 3 rfl) ?_
  refine lv_iconst (v := 2) hx hb dl_753 (by decide) ?_
  refine lv_iadd hx hb dl_754 ?_
  refine va_sld hx hb hX hbl hbA hS hin2 dl_755 ?_
  refine lw_cv (z := 86) (k := 0) (j := 767) (as := [.int (xs ((0 : Int32) + 1).toNatClampNeg), .int (xs ((0 : Int32) + 2).toNatClampNeg)]) (rest := []) C hP hS dl_756 (by decide) (by decide +kernel) (by decide +kernel) (by decide +kernel) rfl (by decide +kernel) (Nat.le_of_ble_eq_true rfl) hl.1 rfl hX1 (fun r ω1 H1 locs1 hq hP1 hS1 => ?_)
  obtain ⟨_, rfl, rfl, hM⟩ := hq
  have hS := hS1
  refine lv_aload_n hx hb dl_759 rfl (lv_at hl 2 rfl) ?_
  refine lv_aload_n hx hb dl_760 rfl (lv_at hl 0 rfl) ?_
  refine lv_iload_n hx hb dl_761 rfl (lv_at hl 3 rfl) ?_
  refine lv_iconst (v := 1) hx hb dl_762 (by decide) ?_
  refine lv_iadd hx hb dl_763 ?_
  refine va_sld hx hb hX hbl hbA hS hin1 dl_764 ?_
  refine lv_aload_n hx hb dl_765 rfl (lv_at hl 0 rfl) ?_
  refine lv_iload_n hx hb dl_766 rfl (lv_at hl 3 rfl) ?_
  refine lv_iconst (v := 2) hx hb dl_767 (by decide) ?_
  refine lv_iadd hx hb dl_768 ?_
  refine va_sld hx hb hX hbl hbA hS hin2 dl_769 ?_
  refine lw_cv (z := 176) (k := 29) (j := 1165) (as := [.int (xs ((0 : Int32) + 1).toNatClampNeg), .int (xs ((0 : Int32) + 2).toNatClampNeg)]) (rest := [.int _]) C hP1 hS1 dl_770 (by decide) (by decide +kernel) (by decide +kernel) (by decide +kernel) rfl (by decide +kernel) (Nat.le_of_ble_eq_true rfl) hl.1 rfl (hX2 ω1 hM) (fun r ω2 H2 locs2 hq hP2 hS2 => ?_)
  obtain ⟨_, rfl, rfl⟩ := hq
  refine lv_icmp_eq (tgt := 841) hx hb dl_773 (by decide) (fun _ => law_end C rfl hS2 hl) (fun cc => absurd rfl cc)
set_option maxRecDepth 100000 in
theorem law_23 {p : Program} {l : Launch} {e : Env} {s : State} {m : MethodId} {below : List Frame} {meth : Method} {c : Code} {b L : Nat} {xs : Nat → Int32} {G : va_G} {cI cJ : ClassId} {ad : Nat → Nat} {H : Heap} {locs : List Loc} {ls : Array Slot} (C : lw_C p s m meth c b L xs G cI cJ ad) (hL4 : L = 4) (hP : va_P G vwCl (me_cc cI cJ ad om0) H) (hS : va_S (fun q => s.heap.size ≤ q) s.heap H locs) (hl : lv_has ls 4 [(0, .ref b), (1, .ref (ad 0)), (2, .ref (ad 29)), (3, .int 0)]) : W p l e room_1 s m #[Value.ref b] below meth c H locs 46 5068 (lw_Z below #[Value.ref b] s) (F0 m 778 ls []) := by
  obtain ⟨⟨hx, hb, hr, hml, hown, hts, hX, hbl, hlocks, hgv⟩, hE, had⟩ := id C
  subst hL4
  have hbA : ¬ (fun q : Nat => s.heap.size ≤ q) b := Nat.not_le.mpr hbl
  have hin1 : vp_in ((0 : Int32) + 1) 4 := by unfold vp_in; decide
  have hin2 : vp_in ((0 : Int32) + 2) 4 := by unfold vp_in; decide
  have hin3 : vp_in ((0 : Int32) + 3) 4 := by unfold vp_in; decide
  obtain ⟨r0, hX1, hX2⟩ := pr_image 
  refine lv_aload_n hx hb dl_778 rfl (lv_at hl 1 rfl) ?_
  refine lw_cv (z := 87) (k := 0) (j := 787) (as := []) (rest := []) C hP hS dl_779 (by decide) (by decide +kernel) (by decide +kernel) (by decide +kernel) rfl (by decide +kernel) (Nat.le_of_ble_eq_true rfl) hl.1 rfl hX1 (fun r ω1 H1 locs1 hq hP1 hS1 => ?_)
  obtain ⟨_, rfl, rfl, hM⟩ := hq
  have hS := hS1
  refine lv_aload_n hx hb dl_782 rfl (lv_at hl 2 rfl) ?_
  refine lw_cv (z := 177) (k := 29) (j := 1182) (as := []) (rest := [.int _]) C hP1 hS1 dl_783 (by decide) (by decide +kernel) (by decide +kernel) (by decide +kernel) rfl (by decide +kernel) (Nat.le_of_ble_eq_true rfl) hl.1 rfl (hX2 ω1 hM) (fun r ω2 H2 locs2 hq hP2 hS2 => ?_)
  obtain ⟨_, rfl, rfl⟩ := hq
  refine lv_icmp_eq (tgt := 841) hx hb dl_786 (by decide) (fun _ => law_end C rfl hS2 hl) (fun cc => absurd rfl cc)
set_option maxRecDepth 100000 in
theorem law_24 {p : Program} {l : Launch} {e : Env} {s : State} {m : MethodId} {below : List Frame} {meth : Method} {c : Code} {b L : Nat} {xs : Nat → Int32} {G : va_G} {cI cJ : ClassId} {ad : Nat → Nat} {H : Heap} {locs : List Loc} {ls : Array Slot} (C : lw_C p s m meth c b L xs G cI cJ ad) (hL4 : L = 4) (hP : va_P G vwCl (me_cc cI cJ ad om0) H) (hS : va_S (fun q => s.heap.size ≤ q) s.heap H locs) (hl : lv_has ls 4 [(0, .ref b), (1, .ref (ad 0)), (2, .ref (ad 29)), (3, .int 0)]) : W p l e room_1 s m #[Value.ref b] below meth c H locs 46 5068 (lw_Z below #[Value.ref b] s) (F0 m 791 ls []) := by
  obtain ⟨⟨hx, hb, hr, hml, hown, hts, hX, hbl, hlocks, hgv⟩, hE, had⟩ := id C
  subst hL4
  have hbA : ¬ (fun q : Nat => s.heap.size ≤ q) b := Nat.not_le.mpr hbl
  have hin1 : vp_in ((0 : Int32) + 1) 4 := by unfold vp_in; decide
  have hin2 : vp_in ((0 : Int32) + 2) 4 := by unfold vp_in; decide
  have hin3 : vp_in ((0 : Int32) + 3) 4 := by unfold vp_in; decide
  obtain ⟨r0, hX1, hX2⟩ := pr_restore 
  refine lv_aload_n hx hb dl_791 rfl (lv_at hl 1 rfl) ?_
  refine lw_cv (z := 88) (k := 0) (j := 796) (as := []) (rest := []) C hP hS dl_792 (by decide) (by decide +kernel) (by decide +kernel) (by decide +kernel) rfl (by decide +kernel) (Nat.le_of_ble_eq_true rfl) hl.1 rfl hX1 (fun r ω1 H1 locs1 hq hP1 hS1 => ?_)
  obtain ⟨_, rfl, rfl, hM⟩ := hq
  have hS := hS1
  refine lv_aload_n hx hb dl_795 rfl (lv_at hl 2 rfl) ?_
  refine lw_cv (z := 178) (k := 29) (j := 1186) (as := []) (rest := [.int _]) C hP1 hS1 dl_796 (by decide) (by decide +kernel) (by decide +kernel) (by decide +kernel) rfl (by decide +kernel) (Nat.le_of_ble_eq_true rfl) hl.1 rfl (hX2 ω1 hM) (fun r ω2 H2 locs2 hq hP2 hS2 => ?_)
  obtain ⟨_, rfl, rfl⟩ := hq
  refine lv_icmp_eq (tgt := 841) hx hb dl_799 (by decide) (fun _ => law_end C rfl hS2 hl) (fun cc => absurd rfl cc)
set_option maxRecDepth 100000 in
theorem law_25 {p : Program} {l : Launch} {e : Env} {s : State} {m : MethodId} {below : List Frame} {meth : Method} {c : Code} {b L : Nat} {xs : Nat → Int32} {G : va_G} {cI cJ : ClassId} {ad : Nat → Nat} {H : Heap} {locs : List Loc} {ls : Array Slot} (C : lw_C p s m meth c b L xs G cI cJ ad) (hL4 : L = 4) (hP : va_P G vwCl (me_cc cI cJ ad om0) H) (hS : va_S (fun q => s.heap.size ≤ q) s.heap H locs) (hl : lv_has ls 4 [(0, .ref b), (1, .ref (ad 0)), (2, .ref (ad 29)), (3, .int 0)]) : W p l e room_1 s m #[Value.ref b] below meth c H locs 46 5068 (lw_Z below #[Value.ref b] s) (F0 m 804 ls []) := by
  obtain ⟨⟨hx, hb, hr, hml, hown, hts, hX, hbl, hlocks, hgv⟩, hE, had⟩ := id C
  subst hL4
  have hbA : ¬ (fun q : Nat => s.heap.size ≤ q) b := Nat.not_le.mpr hbl
  have hin1 : vp_in ((0 : Int32) + 1) 4 := by unfold vp_in; decide
  have hin2 : vp_in ((0 : Int32) + 2) 4 := by unfold vp_in; decide
  have hin3 : vp_in ((0 : Int32) + 3) 4 := by unfold vp_in; decide
  obtain ⟨r0, hX1, hX2⟩ := pr_count ((xs ((0 : Int32) + 1).toNatClampNeg))
  refine lv_aload_n hx hb dl_804 rfl (lv_at hl 1 rfl) ?_
  refine lv_aload_n hx hb dl_805 rfl (lv_at hl 0 rfl) ?_
  refine lv_iload_n hx hb dl_806 rfl (lv_at hl 3 rfl) ?_
  refine lv_iconst (v := 1) hx hb dl_807 (by decide) ?_
  refine lv_iadd hx hb dl_808 ?_
  refine va_sld hx hb hX hbl hbA hS hin1 dl_809 ?_
  refine lw_cv (z := 89) (k := 0) (j := 804) (as := [.int (xs ((0 : Int32) + 1).toNatClampNeg)]) (rest := []) C hP hS dl_810 (by decide) (by decide +kernel) (by decide +kernel) (by decide +kernel) rfl (by decide +kernel) (Nat.le_of_ble_eq_true rfl) hl.1 rfl hX1 (fun r ω1 H1 locs1 hq hP1 hS1 => ?_)
  obtain ⟨_, rfl, rfl, hM⟩ := hq
  have hS := hS1
  refine lv_aload_n hx hb dl_813 rfl (lv_at hl 2 rfl) ?_
  refine lv_aload_n hx hb dl_814 rfl (lv_at hl 0 rfl) ?_
  refine lv_iload_n hx hb dl_815 rfl (lv_at hl 3 rfl) ?_
  refine lv_iconst (v := 1) hx hb dl_816 (by decide) ?_
  refine lv_iadd hx hb dl_817 ?_
  refine va_sld hx hb hX hbl hbA hS hin1 dl_818 ?_
  refine lw_cv (z := 180) (k := 29) (j := 1190) (as := [.int (xs ((0 : Int32) + 1).toNatClampNeg)]) (rest := [.int _]) C hP1 hS1 dl_819 (by decide) (by decide +kernel) (by decide +kernel) (by decide +kernel) rfl (by decide +kernel) (Nat.le_of_ble_eq_true rfl) hl.1 rfl (hX2 ω1 hM) (fun r ω2 H2 locs2 hq hP2 hS2 => ?_)
  obtain ⟨_, rfl, rfl⟩ := hq
  refine lv_icmp_eq (tgt := 841) hx hb dl_822 (by decide) (fun _ => law_end C rfl hS2 hl) (fun cc => absurd rfl cc)
set_option maxRecDepth 100000 in
theorem law_26 {p : Program} {l : Launch} {e : Env} {s : State} {m : MethodId} {below : List Frame} {meth : Method} {c : Code} {b L : Nat} {xs : Nat → Int32} {G : va_G} {cI cJ : ClassId} {ad : Nat → Nat} {H : Heap} {locs : List Loc} {ls : Array Slot} (C : lw_C p s m meth c b L xs G cI cJ ad) (hL4 : L = 4) (hP : va_P G vwCl (me_cc cI cJ ad om0) H) (hS : va_S (fun q => s.heap.size ≤ q) s.heap H locs) (hl : lv_has ls 4 [(0, .ref b), (1, .ref (ad 0)), (2, .ref (ad 29)), (3, .int 0)]) : W p l e room_1 s m #[Value.ref b] below meth c H locs 46 5068 (lw_Z below #[Value.ref b] s) (F0 m 827 ls []) := by
  obtain ⟨⟨hx, hb, hr, hml, hown, hts, hX, hbl, hlocks, hgv⟩, hE, had⟩ := id C
  subst hL4
  have hbA : ¬ (fun q : Nat => s.heap.size ≤ q) b := Nat.not_le.mpr hbl
  have hin1 : vp_in ((0 : Int32) + 1) 4 := by unfold vp_in; decide
  have hin2 : vp_in ((0 : Int32) + 2) 4 := by unfold vp_in; decide
  have hin3 : vp_in ((0 : Int32) + 3) 4 := by unfold vp_in; decide
  obtain ⟨r0, hX1, hX2⟩ := pr_digest 
  refine lv_aload_n hx hb dl_827 rfl (lv_at hl 1 rfl) ?_
  refine lw_cv (z := 90) (k := 0) (j := 808) (as := []) (rest := []) C hP hS dl_828 (by decide) (by decide +kernel) (by decide +kernel) (by decide +kernel) rfl (by decide +kernel) (Nat.le_of_ble_eq_true rfl) hl.1 rfl hX1 (fun r ω1 H1 locs1 hq hP1 hS1 => ?_)
  obtain ⟨_, rfl, rfl, hM⟩ := hq
  have hS := hS1
  refine lv_aload_n hx hb dl_831 rfl (lv_at hl 2 rfl) ?_
  refine lw_cv (z := 183) (k := 29) (j := 1198) (as := []) (rest := [.long _]) C hP1 hS1 dl_832 (by decide) (by decide +kernel) (by decide +kernel) (by decide +kernel) rfl (by decide +kernel) (Nat.le_of_ble_eq_true rfl) hl.1 rfl (hX2 ω1 hM) (fun r ω2 H2 locs2 hq hP2 hS2 => ?_)
  obtain ⟨_, rfl, rfl⟩ := hq
  refine W.lcmp hx hb dl_835 ?_
  refine lv_if_eq (tgt := 841) hx hb dl_836 (by decide) (fun _ => law_end C rfl hS2 hl) (fun cc => absurd (lc_eq _) cc)
