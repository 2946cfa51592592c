theorem lc_eq (a : Int64) : lg_cmp a a = 0 := by unfold lg_cmp; simp
set_option maxRecDepth 100000 in
theorem law_0 {p : Program} {l : Launch} {e : Env} {s : State} {m : MethodId} {below : List Frame} {meth : Method} {c : Code} {b L : Nat} {xs : Nat → Int32} {G : va_G} {cI cJ : ClassId} {ad : Nat → Nat} {H : Heap} {locs : List Loc} {ls : Array Slot} {i : Nat} {ω : Om} (C : lw_C p s m meth c b L xs G cI cJ ad) (hi : i + 4 ≤ L) (hL : L ≤ 2048) (hR : R ω) (hP : va_P G vwCl (me_cc cI cJ ad ω) H) (hS : va_S (fun q => s.heap.size ≤ q) s.heap H locs) (hl : lv_has ls 4 [(0, .ref b), (1, .ref (ad 0)), (2, .ref (ad 29)), (3, .int (nI i))]) (kk : ∀ (ω2 : Om) (H2 : Heap) (locs2 : List Loc), R ω2 → va_P G vwCl (me_cc cI cJ ad ω2) H2 → va_S (fun q => s.heap.size ≤ q) s.heap H2 locs2 → W p l e room_1 s m #[Value.ref b] below meth c H2 locs2 46 5068 (lw_Z below #[Value.ref b] s) (F0 m 837 ls [])) : W p l e room_1 s m #[Value.ref b] below meth c H locs 46 5068 (lw_Z below #[Value.ref b] s) (F0 m 156 ls []) := by
  obtain ⟨⟨hx, hb, hr, hml, hown, hts, hX, hbl, hlocks, hgv⟩, hE, had⟩ := id C
  have hbA : ¬ (fun q : Nat => s.heap.size ≤ q) b := Nat.not_le.mpr hbl
  have hin1 : vp_in (nI i + 1) L := by rw [show (1 : Int32) = nI 1 from rfl, nI_add]; exact vp_in_nI (by omega) (by omega)
  have hin2 : vp_in (nI i + 2) L := by rw [show (2 : Int32) = nI 2 from rfl, nI_add]; exact vp_in_nI (by omega) (by omega)
  have hin3 : vp_in (nI i + 3) L := by rw [show (3 : Int32) = nI 3 from rfl, nI_add]; exact vp_in_nI (by omega) (by omega)
  have hX1 := Pr.q (q_64 hR ((((xs (nI i + 1).toNatClampNeg).toInt64 <<< ((32 : Int32).toInt64 &&& 63)) ||| ((xs (nI i + 2).toNatClampNeg).toInt64 &&& (4294967295 : Int64))))) (fun _ _ ω2 => R ω2) (fun _ _ _ h => h)
  refine lv_aload_n hx hb dl_156 rfl (lv_at hl 1 rfl) ?_
  refine lv_aload_n hx hb dl_157 rfl (lv_at hl 0 rfl) ?_
  refine lv_iload_n hx hb dl_158 rfl (lv_at hl 3 rfl) ?_
  refine lv_iconst (v := 1) hx hb dl_159 (by decide) ?_
  refine lv_iadd hx hb dl_160 ?_
  refine va_sld hx hb hX hbl hbA hS hin1 dl_161 ?_
  refine lv_i2l hx hb dl_162 rfl ?_
  refine lv_bipush (v := 32) hx hb dl_163 (by decide) ?_
  refine lv_lshl hx hb dl_165 rfl ?_
  refine lv_aload_n hx hb dl_166 rfl (lv_at hl 0 rfl) ?_
  refine lv_iload_n hx hb dl_167 rfl (lv_at hl 3 rfl) ?_
  refine lv_iconst (v := 2) hx hb dl_168 (by decide) ?_
  refine lv_iadd hx hb dl_169 ?_
  refine va_sld hx hb hX hbl hbA hS hin2 dl_170 ?_
  refine lv_i2l hx hb dl_171 rfl ?_
  refine lv_ldc2 (v := 4294967295) hx hb hown (hts _ (List.mem_of_getElem? (i := 1212) rfl)) dl_172 ?_
  refine lv_land hx hb dl_175 ?_
  refine lv_lor hx hb dl_176 ?_
  refine lw_cv (z := 64) (k := 0) (j := 344) (as := [.long (((xs (nI i + 1).toNatClampNeg).toInt64 <<< ((32 : Int32).toInt64 &&& 63)) ||| ((xs (nI i + 2).toNatClampNeg).toInt64 &&& (4294967295 : Int64)))]) (rest := []) C hP hS dl_177 (by decide) (by decide +kernel) (by decide +kernel) (by decide +kernel) rfl (by decide +kernel) (Nat.le_of_ble_eq_true rfl) hl.1 rfl hX1 (fun r ω1 H1 locs1 hq hP1 hS1 => ?_)
  obtain ⟨v, rfl, hX2⟩ := hq
  have hS := hS1
  refine lv_pop (va := .int v) (rest := []) hx hb dl_180 rfl ?_
  refine lv_aload_n hx hb dl_181 rfl (lv_at hl 2 rfl) ?_
  refine lv_aload_n hx hb dl_182 rfl (lv_at hl 0 rfl) ?_
  refine lv_iload_n hx hb dl_183 rfl (lv_at hl 3 rfl) ?_
  refine lv_iconst (v := 1) hx hb dl_184 (by decide) ?_
  refine lv_iadd hx hb dl_185 ?_
  refine va_sld hx hb hX hbl hbA hS hin1 dl_186 ?_
  refine lv_i2l hx hb dl_187 rfl ?_
  refine lv_bipush (v := 32) hx hb dl_188 (by decide) ?_
  refine lv_lshl hx hb dl_190 rfl ?_
  refine lv_aload_n hx hb dl_191 rfl (lv_at hl 0 rfl) ?_
  refine lv_iload_n hx hb dl_192 rfl (lv_at hl 3 rfl) ?_
  refine lv_iconst (v := 2) hx hb dl_193 (by decide) ?_
  refine lv_iadd hx hb dl_194 ?_
  refine va_sld hx hb hX hbl hbA hS hin2 dl_195 ?_
  refine lv_i2l hx hb dl_196 rfl ?_
  refine lv_ldc2 (v := 4294967295) hx hb hown (hts _ (List.mem_of_getElem? (i := 1212) rfl)) dl_197 ?_
  refine lv_land hx hb dl_200 ?_
  refine lv_lor hx hb dl_201 ?_
  refine lw_cv (z := 124) (k := 29) (j := 949) (as := [.long (((xs (nI i + 1).toNatClampNeg).toInt64 <<< ((32 : Int32).toInt64 &&& 63)) ||| ((xs (nI i + 2).toNatClampNeg).toInt64 &&& (4294967295 : Int64)))]) (rest := []) C hP1 hS1 dl_202 (by decide) (by decide +kernel) (by decide +kernel) (by decide +kernel) rfl (by decide +kernel) (Nat.le_of_ble_eq_true rfl) hl.1 rfl hX2 (fun r ω2 H2 locs2 hq hP2 hS2 => ?_)
  obtain ⟨u, rfl, hR2⟩ := hq
  refine lv_pop (va := .int u) (rest := []) hx hb dl_205 rfl ?_
  exact lv_goto (tgt := 837) hx hb dl_206 (by decide) (kk ω2 H2 locs2 hR2 hP2 hS2)
set_option maxRecDepth 100000 in
theorem law_1 {p : Program} {l : Launch} {e : Env} {s : State} {m : MethodId} {below : List Frame} {meth : Method} {c : Code} {b L : Nat} {xs : Nat → Int32} {G : va_G} {cI cJ : ClassId} {ad : Nat → Nat} {H : Heap} {locs : List Loc} {ls : Array Slot} {i : Nat} {ω : Om} (C : lw_C p s m meth c b L xs G cI cJ ad) (hi : i + 4 ≤ L) (hL : L ≤ 2048) (hR : R ω) (hP : va_P G vwCl (me_cc cI cJ ad ω) H) (hS : va_S (fun q => s.heap.size ≤ q) s.heap H locs) (hl : lv_has ls 4 [(0, .ref b), (1, .ref (ad 0)), (2, .ref (ad 29)), (3, .int (nI i))]) (kk : ∀ (ω2 : Om) (H2 : Heap) (locs2 : List Loc), R ω2 → va_P G vwCl (me_cc cI cJ ad ω2) H2 → va_S (fun q => s.heap.size ≤ q) s.heap H2 locs2 → W p l e room_1 s m #[Value.ref b] below meth c H2 locs2 46 5068 (lw_Z below #[Value.ref b] s) (F0 m 837 ls [])) : W p l e room_1 s m #[Value.ref b] below meth c H locs 46 5068 (lw_Z below #[Value.ref b] s) (F0 m 209 ls []) := by
  obtain ⟨⟨hx, hb, hr, hml, hown, hts, hX, hbl, hlocks, hgv⟩, hE, had⟩ := id C
  have hbA : ¬ (fun q : Nat => s.heap.size ≤ q) b := Nat.not_le.mpr hbl
  have hin1 : vp_in (nI i + 1) L := by rw [show (1 : Int32) = nI 1 from rfl, nI_add]; exact vp_in_nI (by omega) (by omega)
  have hin2 : vp_in (nI i + 2) L := by rw [show (2 : Int32) = nI 2 from rfl, nI_add]; exact vp_in_nI (by omega) (by omega)
  have hin3 : vp_in (nI i + 3) L := by rw [show (3 : Int32) = nI 3 from rfl, nI_add]; exact vp_in_nI (by omega) (by omega)
  have hX1 := Pr.q (q_65 hR ) (fun _ _ ω2 => R ω2) (fun _ _ _ h => h)
  refine lv_aload_n hx hb dl_209 rfl (lv_at hl 1 rfl) ?_
  refine lw_cv (z := 65) (k := 0) (j := 358) (as := []) (rest := []) C hP hS dl_210 (by decide) (by decide +kernel) (by decide +kernel) (by decide +kernel) rfl (by decide +kernel) (Nat.le_of_ble_eq_true rfl) hl.1 rfl hX1 (fun r ω1 H1 locs1 hq hP1 hS1 => ?_)
  obtain ⟨v, rfl, hX2⟩ := hq
  have hS := hS1
  refine lv_pop (va := .int v) (rest := []) hx hb dl_213 rfl ?_
  refine lv_aload_n hx hb dl_214 rfl (lv_at hl 2 rfl) ?_
  refine lw_cv (z := 125) (k := 29) (j := 954) (as := []) (rest := []) C hP1 hS1 dl_215 (by decide) (by decide +kernel) (by decide +kernel) (by decide +kernel) rfl (by decide +kernel) (Nat.le_of_ble_eq_true rfl) hl.1 rfl hX2 (fun r ω2 H2 locs2 hq hP2 hS2 => ?_)
  obtain ⟨u, rfl, hR2⟩ := hq
  refine lv_pop (va := .int u) (rest := []) hx hb dl_218 rfl ?_
  exact lv_goto (tgt := 837) hx hb dl_219 (by decide) (kk ω2 H2 locs2 hR2 hP2 hS2)
set_option maxRecDepth 100000 in
theorem law_2 {p : Program} {l : Launch} {e : Env} {s : State} {m : MethodId} {below : List Frame} {meth : Method} {c : Code} {b L : Nat} {xs : Nat → Int32} {G : va_G} {cI cJ : ClassId} {ad : Nat → Nat} {H : Heap} {locs : List Loc} {ls : Array Slot} {i : Nat} {ω : Om} (C : lw_C p s m meth c b L xs G cI cJ ad) (hi : i + 4 ≤ L) (hL : L ≤ 2048) (hR : R ω) (hP : va_P G vwCl (me_cc cI cJ ad ω) H) (hS : va_S (fun q => s.heap.size ≤ q) s.heap H locs) (hl : lv_has ls 4 [(0, .ref b), (1, .ref (ad 0)), (2, .ref (ad 29)), (3, .int (nI i))]) (kk : ∀ (ω2 : Om) (H2 : Heap) (locs2 : List Loc), R ω2 → va_P G vwCl (me_cc cI cJ ad ω2) H2 → va_S (fun q => s.heap.size ≤ q) s.heap H2 locs2 → W p l e room_1 s m #[Value.ref b] below meth c H2 locs2 46 5068 (lw_Z below #[Value.ref b] s) (F0 m 837 ls [])) : W p l e room_1 s m #[Value.ref b] below meth c H locs 46 5068 (lw_Z below #[Value.ref b] s) (F0 m 222 ls []) := by
  obtain ⟨⟨hx, hb, hr, hml, hown, hts, hX, hbl, hlocks, hgv⟩, hE, had⟩ := id C
  have hbA : ¬ (fun q : Nat => s.heap.size ≤ q) b := Nat.not_le.mpr hbl
  have hin1 : vp_in (nI i + 1) L := by rw [show (1 : Int32) = nI 1 from rfl, nI_add]; exact vp_in_nI (by omega) (by omega)
  have hin2 : vp_in (nI i + 2) L := by rw [show (2 : Int32) = nI 2 from rfl, nI_add]; exact vp_in_nI (by omega) (by omega)
  have hin3 : vp_in (nI i + 3) L := by rw [show (3 : Int32) = nI 3 from rfl, nI_add]; exact vp_in_nI (by omega) (by omega)
  have hX1 := Pr.q (q_66 hR ((xs (nI i + 1).toNatClampNeg))) (fun _ _ ω2 => R ω2) (fun _ _ _ h => h)
  refine lv_aload_n hx hb dl_222 rfl (lv_at hl 1 rfl) ?_
  refine lv_aload_n hx hb dl_223 rfl (lv_at hl 0 rfl) ?_
  refine lv_iload_n hx hb dl_224 rfl (lv_at hl 3 rfl) ?_
  refine lv_iconst (v := 1) hx hb dl_225 (by decide) ?_
  refine lv_iadd hx hb dl_226 ?_
  refine va_sld hx hb hX hbl hbA hS hin1 dl_227 ?_
  refine lw_cv (z := 66) (k := 0) (j := 362) (as := [.int (xs (nI i + 1).toNatClampNeg)]) (rest := []) C hP hS dl_228 (by decide) (by decide +kernel) (by decide +kernel) (by decide +kernel) rfl (by decide +kernel) (Nat.le_of_ble_eq_true rfl) hl.1 rfl hX1 (fun r ω1 H1 locs1 hq hP1 hS1 => ?_)
  obtain ⟨v, rfl, hX2⟩ := hq
  have hS := hS1
  refine lv_pop (va := .int v) (rest := []) hx hb dl_231 rfl ?_
  refine lv_aload_n hx hb dl_232 rfl (lv_at hl 2 rfl) ?_
  refine lv_aload_n hx hb dl_233 rfl (lv_at hl 0 rfl) ?_
  refine lv_iload_n hx hb dl_234 rfl (lv_at hl 3 rfl) ?_
  refine lv_iconst (v := 1) hx hb dl_235 (by decide) ?_
  refine lv_iadd hx hb dl_236 ?_
  refine va_sld hx hb hX hbl hbA hS hin1 dl_237 ?_
  refine lw_cv (z := 131) (k := 29) (j := 958) (as := [.int (xs (nI i + 1).toNatClampNeg)]) (rest := []) C hP1 hS1 dl_238 (by decide) (by decide +kernel) (by decide +kernel) (by decide +kernel) rfl (by decide +kernel) (Nat.le_of_ble_eq_true rfl) hl.1 rfl hX2 (fun r ω2 H2 locs2 hq hP2 hS2 => ?_)
  obtain ⟨u, rfl, hR2⟩ := hq
  refine lv_pop (va := .int u) (rest := []) hx hb dl_241 rfl ?_
  exact lv_goto (tgt := 837) hx hb dl_242 (by decide) (kk ω2 H2 locs2 hR2 hP2 hS2)
set_option maxRecDepth 100000 in
theorem law_3 {p : Program} {l : Launch} {e : Env} {s : State} {m : MethodId} {below : List Frame} {meth : Method} {c : Code} {b L : Nat} {xs : Nat → Int32} {G : va_G} {cI cJ : ClassId} {ad : Nat → Nat} {H : Heap} {locs : List Loc} {ls : Array Slot} {i : Nat} {ω : Om} (C : lw_C p s m meth c b L xs G cI cJ ad) (hi : i + 4 ≤ L) (hL : L ≤ 2048) (hR : R ω) (hP : va_P G vwCl (me_cc cI cJ ad ω) H) (hS : va_S (fun q => s.heap.size ≤ q) s.heap H locs) (hl : lv_has ls 4 [(0, .ref b), (1, .ref (ad 0)), (2, .ref (ad 29)), (3, .int (nI i))]) (kk : ∀ (ω2 : Om) (H2 : Heap) (locs2 : List Loc), R ω2 → va_P G vwCl (me_cc cI cJ ad ω2) H2 → va_S (fun q => s.heap.size ≤ q) s.heap H2 locs2 → W p l e room_1 s m #[Value.ref b] below meth c H2 locs2 46 5068 (lw_Z below #[Value.ref b] s) (F0 m 837 ls [])) : W p l e room_1 s m #[Value.ref b] below meth c H locs 46 5068 (lw_Z below #[Value.ref b] s) (F0 m 245 ls []) := by
  obtain ⟨⟨hx, hb, hr, hml, hown, hts, hX, hbl, hlocks, hgv⟩, hE, had⟩ := id C
  have hbA : ¬ (fun q : Nat => s.heap.size ≤ q) b := Nat.not_le.mpr hbl
  have hin1 : vp_in (nI i + 1) L := by rw [show (1 : Int32) = nI 1 from rfl, nI_add]; exact vp_in_nI (by omega) (by omega)
  have hin2 : vp_in (nI i + 2) L := by rw [show (2 : Int32) = nI 2 from rfl, nI_add]; exact vp_in_nI (by omega) (by omega)
  have hin3 : vp_in (nI i + 3) L := by rw [show (3 : Int32) = nI 3 from rfl, nI_add]; exact vp_in_nI (by omega) (by omega)
  have hX1 := Pr.q (q_67 hR ) (fun _ _ ω2 => R ω2) (fun _ _ _ h => h)
  refine lv_aload_n hx hb dl_245 rfl (lv_at hl 1 rfl) ?_
  refine lw_cv (z := 67) (k := 0) (j := 423) (as := []) (rest := []) C hP hS dl_246 (by decide) (by decide +kernel) (by decide +kernel) (by decide +kernel) rfl (by decide +kernel) (Nat.le_of_ble_eq_true rfl) hl.1 rfl hX1 (fun r ω1 H1 locs1 hq hP1 hS1 => ?_)
  obtain ⟨v, rfl, hX2⟩ := hq
  have hS := hS1
  refine lv_pop (va := .int v) (rest := []) hx hb dl_249 rfl ?_
  refine lv_aload_n hx hb dl_250 rfl (lv_at hl 2 rfl) ?_
  refine lw_cv (z := 132) (k := 29) (j := 994) (as := []) (rest := []) C hP1 hS1 dl_251 (by decide) (by decide +kernel) (by decide +kernel) (by decide +kernel) rfl (by decide +kernel) (Nat.le_of_ble_eq_true rfl) hl.1 rfl hX2 (fun r ω2 H2 locs2 hq hP2 hS2 => ?_)
  obtain ⟨u, rfl, hR2⟩ := hq
  refine lv_pop (va := .int u) (rest := []) hx hb dl_254 rfl ?_
  exact lv_goto (tgt := 837) hx hb dl_255 (by decide) (kk ω2 H2 locs2 hR2 hP2 hS2)
set_option maxRecDepth 100000 in
theorem law_4 {p : Program} {l : Launch} {e : Env} {s : State} {m : MethodId} {below : List Frame} {meth : Method} {c : Code} {b L : Nat} {xs : Nat → Int32} {G : va_G} {cI cJ : ClassId} {ad : Nat → Nat} {H : Heap} {locs : List Loc} {ls : Array Slot} {i : Nat} {ω : Om} (C : lw_C p s m meth c b L xs G cI cJ ad) (hi : i + 4 ≤ L) (hL : L ≤ 2048) (hR : R ω) (hP : va_P G vwCl (me_cc cI cJ ad ω) H) (hS : va_S (fun q => s.heap.size ≤ q) s.heap H locs) (hl : lv_has ls 4 [(0, .ref b), (1, .ref (ad 0)), (2, .ref (ad 29)), (3, .int (nI i))]) (kk : ∀ (ω2 : Om) (H2 : Heap) (locs2 : List Loc), R ω2 → va_P G vwCl (me_cc cI cJ ad ω2) H2 → va_S (fun q => s.heap.size ≤ q) s.heap H2 locs2 → W p l e room_1 s m #[Value.ref b] below meth c H2 locs2 46 5068 (lw_Z below #[Value.ref b] s) (F0 m 837 ls [])) : W p l e room_1 s m #[Value.ref b] below meth c H locs 46 5068 (lw_Z below #[Value.ref b] s) (F0 m 258 ls []) := by
  obtain ⟨⟨hx, hb, hr, hml, hown, hts, hX, hbl, hlocks, hgv⟩, hE, had⟩ := id C
  have hbA : ¬ (fun q : Nat => s.heap.size ≤ q) b := Nat.not_le.mpr hbl
  have hin1 : vp_in (nI i + 1) L := by rw [show (1 : Int32) = nI 1 from rfl, nI_add]; exact vp_in_nI (by omega) (by omega)
  have hin2 : vp_in (nI i + 2) L := by rw [show (2 : Int32) = nI 2 from rfl, nI_add]; exact vp_in_nI (by omega) (by omega)
  have hin3 : vp_in (nI i + 3) L := by rw [show (3 : Int32) = nI 3 from rfl, nI_add]; exact vp_in_nI (by omega) (by omega)
  have hX1 := Pr.q (q_68 hR ) (fun _ _ ω2 => R ω2) (fun _ _ _ h => h)
  refine lv_aload_n hx hb dl_258 rfl (lv_at hl 1 rfl) ?_
  refine lw_cv (z := 68) (k := 0) (j := 438) (as := []) (rest := []) C hP hS dl_259 (by decide) (by decide +kernel) (by decide +kernel) (by decide +kernel) rfl (by decide +kernel) (Nat.le_of_ble_eq_true rfl) hl.1 rfl hX1 (fun r ω1 H1 locs1 hq hP1 hS1 => ?_)
  obtain ⟨v, rfl, hX2⟩ := hq
  have hS := hS1
  refine lv_pop (va := .int v) (rest := []) hx hb dl_262 rfl ?_
  refine lv_aload_n hx hb dl_263 rfl (lv_at hl 2 rfl) ?_
  refine lw_cv (z := 133) (k := 29) (j := 998) (as := []) (rest := []) C hP1 hS1 dl_264 (by decide) (by decide +kernel) (by decide +kernel) (by decide +kernel) rfl (by decide +kernel) (Nat.le_of_ble_eq_true rfl) hl.1 rfl hX2 (fun r ω2 H2 locs2 hq hP2 hS2 => ?_)
  obtain ⟨u, rfl, hR2⟩ := hq
  refine lv_pop (va := .int u) (rest := []) hx hb dl_267 rfl ?_
  exact lv_goto (tgt := 837) hx hb dl_268 (by decide) (kk ω2 H2 locs2 hR2 hP2 hS2)
set_option maxRecDepth 100000 in
theorem law_5 {p : Program} {l : Launch} {e : Env} {s : State} {m : MethodId} {below : List Frame} {meth : Method} {c : Code} {b L : Nat} {xs : Nat → Int32} {G : va_G} {cI cJ : ClassId} {ad : Nat → Nat} {H : Heap} {locs : List Loc} {ls : Array Slot} {i : Nat} {ω : Om} (C : lw_C p s m meth c b L xs G cI cJ ad) (hi : i + 4 ≤ L) (hL : L ≤ 2048) (hR : R ω) (hP : va_P G vwCl (me_cc cI cJ ad ω) H) (hS : va_S (fun q => s.heap.size ≤ q) s.heap H locs) (hl : lv_has ls 4 [(0, .ref b), (1, .ref (ad 0)), (2, .ref (ad 29)), (3, .int (nI i))]) (kk : ∀ (ω2 : Om) (H2 : Heap) (locs2 : List Loc), R ω2 → va_P G vwCl (me_cc cI cJ ad ω2) H2 → va_S (fun q => s.heap.size ≤ q) s.heap H2 locs2 → W p l e room_1 s m #[Value.ref b] below meth c H2 locs2 46 5068 (lw_Z below #[Value.ref b] s) (F0 m 837 ls [])) : W p l e room_1 s m #[Value.ref b] below meth c H locs 46 5068 (lw_Z below #[Value.ref b] s) (F0 m 271 ls []) := by
  obtain ⟨⟨hx, hb, hr, hml, hown, hts, hX, hbl, hlocks, hgv⟩, hE, had⟩ := id C
  have hbA : ¬ (fun q : Nat => s.heap.size ≤ q) b := Nat.not_le.mpr hbl
  have hin1 : vp_in (nI i + 1) L := by rw [show (1 : Int32) = nI 1 from rfl, nI_add]; exact vp_in_nI (by omega) (by omega)
  have hin2 : vp_in (nI i + 2) L := by rw [show (2 : Int32) = nI 2 from rfl, nI_add]; exact vp_in_nI (by omega) (by omega)
  have hin3 : vp_in (nI i + 3) L := by rw [show (3 : Int32) = nI 3 from rfl, nI_add]; exact vp_in_nI (by omega) (by omega)
  have hX1 := Pr.q (q_69 hR ((xs (nI i + 1).toNatClampNeg)) ((xs (nI i + 2).toNatClampNeg))) (fun _ _ ω2 => R ω2) (fun _ _ _ h => h)
  refine lv_aload_n hx hb dl_271 rfl (lv_at hl 1 rfl) ?_
  refine lv_aload_n hx hb dl_272 rfl (lv_at hl 0 rfl) ?_
  refine lv_iload_n hx hb dl_273 rfl (lv_at hl 3 rfl) ?_
  refine lv_iconst (v := 1) hx hb dl_274 (by decide) ?_
  refine lv_iadd hx hb dl_275 ?_
  refine va_sld hx hb hX hbl hbA hS hin1 dl_276 ?_
  refine lv_aload_n hx hb dl_277 rfl (lv_at hl 0 rfl) ?_
  refine lv_iload_n hx hb dl_278 rfl (lv_at hl 3 rfl) ?_
  refine lv_iconst (v := 2) hx hb dl_279 (by decide) ?_
  refine lv_iadd hx hb dl_280 ?_
  refine va_sld hx hb hX hbl hbA hS hin2 dl_281 ?_
  refine lw_cv (z := 69) (k := 0) (j := 451) (as := [.int (xs (nI i + 1).toNatClampNeg), .int (xs (nI i + 2).toNatClampNeg)]) (rest := []) C hP hS dl_282 (by decide) (by decide +kernel) (by decide +kernel) (by decide +kernel) rfl (by decide +kernel) (Nat.le_of_ble_eq_true rfl) hl.1 rfl hX1 (fun r ω1 H1 locs1 hq hP1 hS1 => ?_)
  obtain ⟨v, rfl, hX2⟩ := hq
  have hS := hS1
  refine lv_pop (va := .int v) (rest := []) hx hb dl_285 rfl ?_
  refine lv_aload_n hx hb dl_286 rfl (lv_at hl 2 rfl) ?_
  refine lv_aload_n hx hb dl_287 rfl (lv_at hl 0 rfl) ?_
  refine lv_iload_n hx hb dl_288 rfl (lv_at hl 3 rfl) ?_
  refine lv_iconst (v := 1) hx hb dl_289 (by decide) ?_
  refine lv_iadd hx hb dl_290 ?_
  refine va_sld hx hb hX hbl hbA hS hin1 dl_291 ?_
  refine lv_aload_n hx hb dl_292 rfl (lv_at hl 0 rfl) ?_
  refine lv_iload_n hx hb dl_293 rfl (lv_at hl 3 rfl) ?_
  refine lv_iconst (v := 2) hx hb dl_294 (by decide) ?_
  refine lv_iadd hx hb dl_295 ?_
  refine va_sld hx hb hX hbl hbA hS hin2 dl_296 ?_
  refine lw_cv (z := 134) (k := 29) (j := 1002) (as := [.int (xs (nI i + 1).toNatClampNeg), .int (xs (nI i + 2).toNatClampNeg)]) (rest := []) C hP1 hS1 dl_297 (by decide) (by decide +kernel) (by decide +kernel) (by decide +kernel) rfl (by decide +kernel) (Nat.le_of_ble_eq_true rfl) hl.1 rfl hX2 (fun r ω2 H2 locs2 hq hP2 hS2 => ?_)
  obtain ⟨u, rfl, hR2⟩ := hq
  refine lv_pop (va := .int u) (rest := []) hx hb dl_300 rfl ?_
  exact lv_goto (tgt := 837) hx hb dl_301 (by decide) (kk ω2 H2 locs2 hR2 hP2 hS2)
set_option maxRecDepth 100000 in
theorem law_6 {p : Program} {l : Launch} {e : Env} {s : State} {m : MethodId} {below : List Frame} {meth : Method} {c : Code} {b L : Nat} {xs : Nat → Int32} {G : va_G} {cI cJ : ClassId} {ad : Nat → Nat} {H : Heap} {locs : List Loc} {ls : Array Slot} {i : Nat} {ω : Om} (C : lw_C p s m meth c b L xs G cI cJ ad) (hi : i + 4 ≤ L) (hL : L ≤ 2048) (hR : R ω) (hP : va_P G vwCl (me_cc cI cJ ad ω) H) (hS : va_S (fun q => s.heap.size ≤ q) s.heap H locs) (hl : lv_has ls 4 [(0, .ref b), (1, .ref (ad 0)), (2, .ref (ad 29)), (3, .int (nI i))]) (kk : ∀ (ω2 : Om) (H2 : Heap) (locs2 : List Loc), R ω2 → va_P G vwCl (me_cc cI cJ ad ω2) H2 → va_S (fun q => s.heap.size ≤ q) s.heap H2 locs2 → W p l e room_1 s m #[Value.ref b] below meth c H2 locs2 46 5068 (lw_Z below #[Value.ref b] s) (F0 m 837 ls [])) : W p l e room_1 s m #[Value.ref b] below meth c H locs 46 5068 (lw_Z below #[Value.ref b] s) (F0 m 304 ls []) := by
  obtain ⟨⟨hx, hb, hr, hml, hown, hts, hX, hbl, hlocks, hgv⟩, hE, had⟩ := id C
  have hbA : ¬ (fun q : Nat => s.heap.size ≤ q) b := Nat.not_le.mpr hbl
  have hin1 : vp_in (nI i + 1) L := by rw [show (1 : Int32) = nI 1 from rfl, nI_add]; exact vp_in_nI (by omega) (by omega)
  have hin2 : vp_in (nI i + 2) L := by rw [show (2 : Int32) = nI 2 from rfl, nI_add]; exact vp_in_nI (by omega) (by omega)
  have hin3 : vp_in (nI i + 3) L := by rw [show (3 : Int32) = nI 3 from rfl, nI_add]; exact vp_in_nI (by omega) (by omega)
  have hX1 := Pr.q (q_70 hR ((xs (nI i + 1).toNatClampNeg)) ((xs (nI i + 2).toNatClampNeg))) (fun _ _ ω2 => R ω2) (fun _ _ _ h => h)
  refine lv_aload_n hx hb dl_304 rfl (lv_at hl 1 rfl) ?_
  refine lv_aload_n hx hb dl_305 rfl (lv_at hl 0 rfl) ?_
  refine lv_iload_n hx hb dl_306 rfl (lv_at hl 3 rfl) ?_
  refine lv_iconst (v := 1) hx hb dl_307 (by decide) ?_
  refine lv_iadd hx hb dl_308 ?_
  refine va_sld hx hb hX hbl hbA hS hin1 dl_309 ?_
  refine lv_aload_n hx hb dl_310 rfl (lv_at hl 0 rfl) ?_
  refine lv_iload_n hx hb dl_311 rfl (lv_at hl 3 rfl) ?_
  refine lv_iconst (v := 2) hx hb dl_312 (by decide) ?_
  refine lv_iadd hx hb dl_313 ?_
  refine va_sld hx hb hX hbl hbA hS hin2 dl_314 ?_
  refine lw_cv (z := 70) (k := 0) (j := 467) (as := [.int (xs (nI i + 1).toNatClampNeg), .int (xs (nI i + 2).toNatClampNeg)]) (rest := []) C hP hS dl_315 (by decide) (by decide +kernel) (by decide +kernel) (by decide +kernel) rfl (by decide +kernel) (Nat.le_of_ble_eq_true rfl) hl.1 rfl hX1 (fun r ω1 H1 locs1 hq hP1 hS1 => ?_)
  obtain ⟨v, rfl, hX2⟩ := hq
  have hS := hS1
  refine lv_pop (va := .int v) (rest := []) hx hb dl_318 rfl ?_
  refine lv_aload_n hx hb dl_319 rfl (lv_at hl 2 rfl) ?_
  refine lv_aload_n hx hb dl_320 rfl (lv_at hl 0 rfl) ?_
  refine lv_iload_n hx hb dl_321 rfl (lv_at hl 3 rfl) ?_
  refine lv_iconst (v := 1) hx hb dl_322 (by decide) ?_
  refine lv_iadd hx hb dl_323 ?_
  refine va_sld hx hb hX hbl hbA hS hin1 dl_324 ?_
  refine lv_aload_n hx hb dl_325 rfl (lv_at hl 0 rfl) ?_
  refine lv_iload_n hx hb dl_326 rfl (lv_at hl 3 rfl) ?_
  refine lv_iconst (v := 2) hx hb dl_327 (by decide) ?_
  refine lv_iadd hx hb dl_328 ?_
  refine va_sld hx hb hX hbl hbA hS hin2 dl_329 ?_
  refine lw_cv (z := 136) (k := 29) (j := 1008) (as := [.int (xs (nI i + 1).toNatClampNeg), .int (xs (nI i + 2).toNatClampNeg)]) (rest := []) C hP1 hS1 dl_330 (by decide) (by decide +kernel) (by decide +kernel) (by decide +kernel) rfl (by decide +kernel) (Nat.le_of_ble_eq_true rfl) hl.1 rfl hX2 (fun r ω2 H2 locs2 hq hP2 hS2 => ?_)
  obtain ⟨u, rfl, hR2⟩ := hq
  refine lv_pop (va := .int u) (rest := []) hx hb dl_333 rfl ?_
  exact lv_goto (tgt := 837) hx hb dl_334 (by decide) (kk ω2 H2 locs2 hR2 hP2 hS2)
set_option maxRecDepth 100000 in
theorem law_7 {p : Program} {l : Launch} {e : Env} {s : State} {m : MethodId} {below : List Frame} {meth : Method} {c : Code} {b L : Nat} {xs : Nat → Int32} {G : va_G} {cI cJ : ClassId} {ad : Nat → Nat} {H : Heap} {locs : List Loc} {ls : Array Slot} {i : Nat} {ω : Om} (C : lw_C p s m meth c b L xs G cI cJ ad) (hi : i + 4 ≤ L) (hL : L ≤ 2048) (hR : R ω) (hP : va_P G vwCl (me_cc cI cJ ad ω) H) (hS : va_S (fun q => s.heap.size ≤ q) s.heap H locs) (hl : lv_has ls 4 [(0, .ref b), (1, .ref (ad 0)), (2, .ref (ad 29)), (3, .int (nI i))]) (kk : ∀ (ω2 : Om) (H2 : Heap) (locs2 : List Loc), R ω2 → va_P G vwCl (me_cc cI cJ ad ω2) H2 → va_S (fun q => s.heap.size ≤ q) s.heap H2 locs2 → W p l e room_1 s m #[Value.ref b] below meth c H2 locs2 46 5068 (lw_Z below #[Value.ref b] s) (F0 m 837 ls [])) : W p l e room_1 s m #[Value.ref b] below meth c H locs 46 5068 (lw_Z below #[Value.ref b] s) (F0 m 337 ls []) := by
  obtain ⟨⟨hx, hb, hr, hml, hown, hts, hX, hbl, hlocks, hgv⟩, hE, had⟩ := id C
  have hbA : ¬ (fun q : Nat => s.heap.size ≤ q) b := Nat.not_le.mpr hbl
  have hin1 : vp_in (nI i + 1) L := by rw [show (1 : Int32) = nI 1 from rfl, nI_add]; exact vp_in_nI (by omega) (by omega)
  have hin2 : vp_in (nI i + 2) L := by rw [show (2 : Int32) = nI 2 from rfl, nI_add]; exact vp_in_nI (by omega) (by omega)
  have hin3 : vp_in (nI i + 3) L := by rw [show (3 : Int32) = nI 3 from rfl, nI_add]; exact vp_in_nI (by omega) (by omega)
  have hX1 := Pr.q (q_71 hR ((xs (nI i + 1).toNatClampNeg)) ((xs (nI i + 2).toNatClampNeg)) ((xs (nI i + 3).toNatClampNeg))) (fun _ _ ω2 => R ω2) (fun _ _ _ h => h)
  refine lv_aload_n hx hb dl_337 rfl (lv_at hl 1 rfl) ?_
  refine lv_aload_n hx hb dl_338 rfl (lv_at hl 0 rfl) ?_
  refine lv_iload_n hx hb dl_339 rfl (lv_at hl 3 rfl) ?_
  refine lv_iconst (v := 1) hx hb dl_340 (by decide) ?_
  refine lv_iadd hx hb dl_341 ?_
  refine va_sld hx hb hX hbl hbA hS hin1 dl_342 ?_
  refine lv_aload_n hx hb dl_343 rfl (lv_at hl 0 rfl) ?_
  refine lv_iload_n hx hb dl_344 rfl (lv_at hl 3 rfl) ?_
  refine lv_iconst (v := 2) hx hb dl_345 (by decide) ?_
  refine lv_iadd hx hb dl_346 ?_
  refine va_sld hx hb hX hbl hbA hS hin2 dl_347 ?_
  refine lv_aload_n hx hb dl_348 rfl (lv_at hl 0 rfl) ?_
  refine lv_iload_n hx hb dl_349 rfl (lv_at hl 3 rfl) ?_
  refine lv_iconst (v := 3) hx hb dl_350 (by decide) ?_
  refine lv_iadd hx hb dl_351 ?_
  refine va_sld hx hb hX hbl hbA hS hin3 dl_352 ?_
  refine lw_cv (z := 71) (k := 0) (j := 481) (as := [.int (xs (nI i + 1).toNatClampNeg), .int (xs (nI i + 2).toNatClampNeg), .int (xs (nI i + 3).toNatClampNeg)]) (rest := []) C hP hS dl_353 (by decide) (by decide +kernel) (by decide +kernel) (by decide +kernel) rfl (by decide +kernel) (Nat.le_of_ble_eq_true rfl) hl.1 rfl hX1 (fun r ω1 H1 locs1 hq hP1 hS1 => ?_)
  obtain ⟨v, rfl, hX2⟩ := hq
  have hS := hS1
  refine lv_pop (va := .int v) (rest := []) hx hb dl_356 rfl ?_
  refine lv_aload_n hx hb dl_357 rfl (lv_at hl 2 rfl) ?_
  refine lv_aload_n hx hb dl_358 rfl (lv_at hl 0 rfl) ?_
  refine lv_iload_n hx hb dl_359 rfl (lv_at hl 3 rfl) ?_
  refine lv_iconst (v := 1) hx hb dl_360 (by decide) ?_
  refine lv_iadd hx hb dl_361 ?_
  refine va_sld hx hb hX hbl hbA hS hin1 dl_362 ?_
  refine lv_aload_n hx hb dl_363 rfl (lv_at hl 0 rfl) ?_
  refine lv_iload_n hx hb dl_364 rfl (lv_at hl 3 rfl) ?_
  refine lv_iconst (v := 2) hx hb dl_365 (by decide) ?_
  refine lv_iadd hx hb dl_366 ?_
  refine va_sld hx hb hX hbl hbA hS hin2 dl_367 ?_
  refine lv_aload_n hx hb dl_368 rfl (lv_at hl 0 rfl) ?_
  refine lv_iload_n hx hb dl_369 rfl (lv_at hl 3 rfl) ?_
  refine lv_iconst (v := 3) hx hb dl_370 (by decide) ?_
  refine lv_iadd hx hb dl_371 ?_
  refine va_sld hx hb hX hbl hbA hS hin3 dl_372 ?_
  refine lw_cv (z := 137) (k := 29) (j := 1014) (as := [.int (xs (nI i + 1).toNatClampNeg), .int (xs (nI i + 2).toNatClampNeg), .int (xs (nI i + 3).toNatClampNeg)]) (rest := []) C hP1 hS1 dl_373 (by decide) (by decide +kernel) (by decide +kernel) (by decide +kernel) rfl (by decide +kernel) (Nat.le_of_ble_eq_true rfl) hl.1 rfl hX2 (fun r ω2 H2 locs2 hq hP2 hS2 => ?_)
  obtain ⟨u, rfl, hR2⟩ := hq
  refine lv_pop (va := .int u) (rest := []) hx hb dl_376 rfl ?_
  exact lv_goto (tgt := 837) hx hb dl_377 (by decide) (kk ω2 H2 locs2 hR2 hP2 hS2)
set_option maxRecDepth 100000 in
theorem law_8 {p : Program} {l : Launch} {e : Env} {s : State} {m : MethodId} {below : List Frame} {meth : Method} {c : Code} {b L : Nat} {xs : Nat → Int32} {G : va_G} {cI cJ : ClassId} {ad : Nat → Nat} {H : Heap} {locs : List Loc} {ls : Array Slot} {i : Nat} {ω : Om} (C : lw_C p s m meth c b L xs G cI cJ ad) (hi : i + 4 ≤ L) (hL : L ≤ 2048) (hR : R ω) (hP : va_P G vwCl (me_cc cI cJ ad ω) H) (hS : va_S (fun q => s.heap.size ≤ q) s.heap H locs) (hl : lv_has ls 4 [(0, .ref b), (1, .ref (ad 0)), (2, .ref (ad 29)), (3, .int (nI i))]) (kk : ∀ (ω2 : Om) (H2 : Heap) (locs2 : List Loc), R ω2 → va_P G vwCl (me_cc cI cJ ad ω2) H2 → va_S (fun q => s.heap.size ≤ q) s.heap H2 locs2 → W p l e room_1 s m #[Value.ref b] below meth c H2 locs2 46 5068 (lw_Z below #[Value.ref b] s) (F0 m 837 ls [])) : W p l e room_1 s m #[Value.ref b] below meth c H locs 46 5068 (lw_Z below #[Value.ref b] s) (F0 m 380 ls []) := by
  obtain ⟨⟨hx, hb, hr, hml, hown, hts, hX, hbl, hlocks, hgv⟩, hE, had⟩ := id C
  have hbA : ¬ (fun q : Nat => s.heap.size ≤ q) b := Nat.not_le.mpr hbl
  have hin1 : vp_in (nI i + 1) L := by rw [show (1 : Int32) = nI 1 from rfl, nI_add]; exact vp_in_nI (by omega) (by omega)
  have hin2 : vp_in (nI i + 2) L := by rw [show (2 : Int32) = nI 2 from rfl, nI_add]; exact vp_in_nI (by omega) (by omega)
  have hin3 : vp_in (nI i + 3) L := by rw [show (3 : Int32) = nI 3 from rfl, nI_add]; exact vp_in_nI (by omega) (by omega)
  have hX1 := Pr.q (q_72 hR ((xs (nI i + 1).toNatClampNeg)) ((xs (nI i + 2).toNatClampNeg))) (fun _ _ ω2 => R ω2) (fun _ _ _ h => h)
  refine lv_aload_n hx hb dl_380 rfl (lv_at hl 1 rfl) ?_
  refine lv_aload_n hx hb dl_381 rfl (lv_at hl 0 rfl) ?_
  refine lv_iload_n hx hb dl_382 rfl (lv_at hl 3 rfl) ?_
  refine lv_iconst (v := 1) hx hb dl_383 (by decide) ?_
  refine lv_iadd hx hb dl_384 ?_
  refine va_sld hx hb hX hbl hbA hS hin1 dl_385 ?_
  refine lv_aload_n hx hb dl_386 rfl (lv_at hl 0 rfl) ?_
  refine lv_iload_n hx hb dl_387 rfl (lv_at hl 3 rfl) ?_
  refine lv_iconst (v := 2) hx hb dl_388 (by decide) ?_
  refine lv_iadd hx hb dl_389 ?_
  refine va_sld hx hb hX hbl hbA hS hin2 dl_390 ?_
  refine lw_cv (z := 72) (k := 0) (j := 497) (as := [.int (xs (nI i + 1).toNatClampNeg), .int (xs (nI i + 2).toNatClampNeg)]) (rest := []) C hP hS dl_391 (by decide) (by decide +kernel) (by decide +kernel) (by decide +kernel) rfl (by decide +kernel) (Nat.le_of_ble_eq_true rfl) hl.1 rfl hX1 (fun r ω1 H1 locs1 hq hP1 hS1 => ?_)
  obtain ⟨v, rfl, hX2⟩ := hq
  have hS := hS1
  refine lv_pop (va := .int v) (rest := []) hx hb dl_394 rfl ?_
  refine lv_aload_n hx hb dl_395 rfl (lv_at hl 2 rfl) ?_
  refine lv_aload_n hx hb dl_396 rfl (lv_at hl 0 rfl) ?_
  refine lv_iload_n hx hb dl_397 rfl (lv_at hl 3 rfl) ?_
  refine lv_iconst (v := 1) hx hb dl_398 (by decide) ?_
  refine lv_iadd hx hb dl_399 ?_
  refine va_sld hx hb hX hbl hbA hS hin1 dl_400 ?_
  refine lv_aload_n hx hb dl_401 rfl (lv_at hl 0 rfl) ?_
  refine lv_iload_n hx hb dl_402 rfl (lv_at hl 3 rfl) ?_
  refine lv_iconst (v := 2) hx hb dl_403 (by decide) ?_
  refine lv_iadd hx hb dl_404 ?_
  refine va_sld hx hb hX hbl hbA hS hin2 dl_405 ?_
  refine lw_cv (z := 138) (k := 29) (j := 1018) (as := [.int (xs (nI i + 1).toNatClampNeg), .int (xs (nI i + 2).toNatClampNeg)]) (rest := []) C hP1 hS1 dl_406 (by decide) (by decide +kernel) (by decide +kernel) (by decide +kernel) rfl (by decide +kernel) (Nat.le_of_ble_eq_true rfl) hl.1 rfl hX2 (fun r ω2 H2 locs2 hq hP2 hS2 => ?_)
  obtain ⟨u, rfl, hR2⟩ := hq
  refine lv_pop (va := .int u) (rest := []) hx hb dl_409 rfl ?_
  exact lv_goto (tgt := 837) hx hb dl_410 (by decide) (kk ω2 H2 locs2 hR2 hP2 hS2)
set_option maxRecDepth 100000 in
theorem law_9 {p : Program} {l : Launch} {e : Env} {s : State} {m : MethodId} {below : List Frame} {meth : Method} {c : Code} {b L : Nat} {xs : Nat → Int32} {G : va_G} {cI cJ : ClassId} {ad : Nat → Nat} {H : Heap} {locs : List Loc} {ls : Array Slot} {i : Nat} {ω : Om} (C : lw_C p s m meth c b L xs G cI cJ ad) (hi : i + 4 ≤ L) (hL : L ≤ 2048) (hR : R ω) (hP : va_P G vwCl (me_cc cI cJ ad ω) H) (hS : va_S (fun q => s.heap.size ≤ q) s.heap H locs) (hl : lv_has ls 4 [(0, .ref b), (1, .ref (ad 0)), (2, .ref (ad 29)), (3, .int (nI i))]) (kk : ∀ (ω2 : Om) (H2 : Heap) (locs2 : List Loc), R ω2 → va_P G vwCl (me_cc cI cJ ad ω2) H2 → va_S (fun q => s.heap.size ≤ q) s.heap H2 locs2 → W p l e room_1 s m #[Value.ref b] below meth c H2 locs2 46 5068 (lw_Z below #[Value.ref b] s) (F0 m 837 ls [])) : W p l e room_1 s m #[Value.ref b] below meth c H locs 46 5068 (lw_Z below #[Value.ref b] s) (F0 m 413 ls []) := by
  obtain ⟨⟨hx, hb, hr, hml, hown, hts, hX, hbl, hlocks, hgv⟩, hE, had⟩ := id C
  have hbA : ¬ (fun q : Nat => s.heap.size ≤ q) b := Nat.not_le.mpr hbl
  have hin1 : vp_in (nI i + 1) L := by rw [show (1 : Int32) = nI 1 from rfl, nI_add]; exact vp_in_nI (by omega) (by omega)
  have hin2 : vp_in (nI i + 2) L := by rw [show (2 : Int32) = nI 2 from rfl, nI_add]; exact vp_in_nI (by omega) (by omega)
  have hin3 : vp_in (nI i + 3) L := by rw [show (3 : Int32) = nI 3 from rfl, nI_add]; exact vp_in_nI (by omega) (by omega)
  have hX1 := q_73 hR ((xs (nI i + 1).toNatClampNeg)) ((xs (nI i + 2).toNatClampNeg)) (fun _ _ ω2 => R ω2) (fun _ _ _ h => h)
  refine lv_aload_n hx hb dl_413 rfl (lv_at hl 1 rfl) ?_
  refine lv_aload_n hx hb dl_414 rfl (lv_at hl 0 rfl) ?_
  refine lv_iload_n hx hb dl_415 rfl (lv_at hl 3 rfl) ?_
  refine lv_iconst (v := 1) hx hb dl_416 (by decide) ?_
  refine lv_iadd hx hb dl_417 ?_
  refine va_sld hx hb hX hbl hbA hS hin1 dl_418 ?_
  refine lv_aload_n hx hb dl_419 rfl (lv_at hl 0 rfl) ?_
  refine lv_iload_n hx hb dl_420 rfl (lv_at hl 3 rfl) ?_
  refine lv_iconst (v := 2) hx hb dl_421 (by decide) ?_
  refine lv_iadd hx hb dl_422 ?_
  refine va_sld hx hb hX hbl hbA hS hin2 dl_423 ?_
  refine lw_cv (z := 73) (k := 0) (j := 510) (as := [.int (xs (nI i + 1).toNatClampNeg), .int (xs (nI i + 2).toNatClampNeg)]) (rest := []) C hP hS dl_424 (by decide) (by decide +kernel) (by decide +kernel) (by decide +kernel) rfl (by decide +kernel) (Nat.le_of_ble_eq_true rfl) hl.1 rfl hX1 (fun r ω1 H1 locs1 hq hP1 hS1 => ?_)
  obtain ⟨v, rfl, hX2⟩ := hq
  have hS := hS1
  refine lv_pop (va := .int v) (rest := []) hx hb dl_427 rfl ?_
  refine lv_aload_n hx hb dl_428 rfl (lv_at hl 2 rfl) ?_
  refine lv_aload_n hx hb dl_429 rfl (lv_at hl 0 rfl) ?_
  refine lv_iload_n hx hb dl_430 rfl (lv_at hl 3 rfl) ?_
  refine lv_iconst (v := 1) hx hb dl_431 (by decide) ?_
  refine lv_iadd hx hb dl_432 ?_
  refine va_sld hx hb hX hbl hbA hS hin1 dl_433 ?_
  refine lv_aload_n hx hb dl_434 rfl (lv_at hl 0 rfl) ?_
  refine lv_iload_n hx hb dl_435 rfl (lv_at hl 3 rfl) ?_
  refine lv_iconst (v := 2) hx hb dl_436 (by decide) ?_
  refine lv_iadd hx hb dl_437 ?_
  refine va_sld hx hb hX hbl hbA hS hin2 dl_438 ?_
  refine lw_cv (z := 142) (k := 29) (j := 1022) (as := [.int (xs (nI i + 1).toNatClampNeg), .int (xs (nI i + 2).toNatClampNeg)]) (rest := []) C hP1 hS1 dl_439 (by decide) (by decide +kernel) (by decide +kernel) (by decide +kernel) rfl (by decide +kernel) (Nat.le_of_ble_eq_true rfl) hl.1 rfl hX2 (fun r ω2 H2 locs2 hq hP2 hS2 => ?_)
  obtain ⟨u, rfl, hR2⟩ := hq
  refine lv_pop (va := .int u) (rest := []) hx hb dl_442 rfl ?_
  exact lv_goto (tgt := 837) hx hb dl_443 (by decide) (kk ω2 H2 locs2 hR2 hP2 hS2)
set_option maxRecDepth 100000 in
theorem law_10 {p : Program} {l : Launch} {e : Env} {s : State} {m : MethodId} {below : List Frame} {meth : Method} {c : Code} {b L : Nat} {xs : Nat → Int32} {G : va_G} {cI cJ : ClassId} {ad : Nat → Nat} {H : Heap} {locs : List Loc} {ls : Array Slot} {i : Nat} {ω : Om} (C : lw_C p s m meth c b L xs G cI cJ ad) (hi : i + 4 ≤ L) (hL : L ≤ 2048) (hR : R ω) (hP : va_P G vwCl (me_cc cI cJ ad ω) H) (hS : va_S (fun q => s.heap.size ≤ q) s.heap H locs) (hl : lv_has ls 4 [(0, .ref b), (1, .ref (ad 0)), (2, .ref (ad 29)), (3, .int (nI i))]) (kk : ∀ (ω2 : Om) (H2 : Heap) (locs2 : List Loc), R ω2 → va_P G vwCl (me_cc cI cJ ad ω2) H2 → va_S (fun q => s.heap.size ≤ q) s.heap H2 locs2 → W p l e room_1 s m #[Value.ref b] below meth c H2 locs2 46 5068 (lw_Z below #[Value.ref b] s) (F0 m 837 ls [])) : W p l e room_1 s m #[Value.ref b] below meth c H locs 46 5068 (lw_Z below #[Value.ref b] s) (F0 m 446 ls []) := by
  obtain ⟨⟨hx, hb, hr, hml, hown, hts, hX, hbl, hlocks, hgv⟩, hE, had⟩ := id C
  have hbA : ¬ (fun q : Nat => s.heap.size ≤ q) b := Nat.not_le.mpr hbl
  have hin1 : vp_in (nI i + 1) L := by rw [show (1 : Int32) = nI 1 from rfl, nI_add]; exact vp_in_nI (by omega) (by omega)
  have hin2 : vp_in (nI i + 2) L := by rw [show (2 : Int32) = nI 2 from rfl, nI_add]; exact vp_in_nI (by omega) (by omega)
  have hin3 : vp_in (nI i + 3) L := by rw [show (3 : Int32) = nI 3 from rfl, nI_add]; exact vp_in_nI (by omega) (by omega)
  have hX1 := Pr.q (q_74 hR ((xs (nI i + 1).toNatClampNeg)) ((xs (nI i + 2).toNatClampNeg))) (fun _ _ ω2 => R ω2) (fun _ _ _ h => h)
  refine lv_aload_n hx hb dl_446 rfl (lv_at hl 1 rfl) ?_
  refine lv_aload_n hx hb dl_447 rfl (lv_at hl 0 rfl) ?_
  refine lv_iload_n hx hb dl_448 rfl (lv_at hl 3 rfl) ?_
  refine lv_iconst (v := 1) hx hb dl_449 (by decide) ?_
  refine lv_iadd hx hb dl_450 ?_
  refine va_sld hx hb hX hbl hbA hS hin1 dl_451 ?_
  refine lv_aload_n hx hb dl_452 rfl (lv_at hl 0 rfl) ?_
  refine lv_iload_n hx hb dl_453 rfl (lv_at hl 3 rfl) ?_
  refine lv_iconst (v := 2) hx hb dl_454 (by decide) ?_
  refine lv_iadd hx hb dl_455 ?_
  refine va_sld hx hb hX hbl hbA hS hin2 dl_456 ?_
  refine lw_cv (z := 74) (k := 0) (j := 544) (as := [.int (xs (nI i + 1).toNatClampNeg), .int (xs (nI i + 2).toNatClampNeg)]) (rest := []) C hP hS dl_457 (by decide) (by decide +kernel) (by decide +kernel) (by decide +kernel) rfl (by decide +kernel) (Nat.le_of_ble_eq_true rfl) hl.1 rfl hX1 (fun r ω1 H1 locs1 hq hP1 hS1 => ?_)
  obtain ⟨v, rfl, hX2⟩ := hq
  have hS := hS1
  refine lv_pop (va := .int v) (rest := []) hx hb dl_460 rfl ?_
  refine lv_aload_n hx hb dl_461 rfl (lv_at hl 2 rfl) ?_
  refine lv_aload_n hx hb dl_462 rfl (lv_at hl 0 rfl) ?_
  refine lv_iload_n hx hb dl_463 rfl (lv_at hl 3 rfl) ?_
  refine lv_iconst (v := 1) hx hb dl_464 (by decide) ?_
  refine lv_iadd hx hb dl_465 ?_
  refine va_sld hx hb hX hbl hbA hS hin1 dl_466 ?_
  refine lv_aload_n hx hb dl_467 rfl (lv_at hl 0 rfl) ?_
  refine lv_iload_n hx hb dl_468 rfl (lv_at hl 3 rfl) ?_
  refine lv_iconst (v := 2) hx hb dl_469 (by decide) ?_
  refine lv_iadd hx hb dl_470 ?_
  refine va_sld hx hb hX hbl hbA hS hin2 dl_471 ?_
  refine lw_cv (z := 143) (k := 29) (j := 1040) (as := [.int (xs (nI i + 1).toNatClampNeg), .int (xs (nI i + 2).toNatClampNeg)]) (rest := []) C hP1 hS1 dl_472 (by decide) (by decide +kernel) (by decide +kernel) (by decide +kernel) rfl (by decide +kernel) (Nat.le_of_ble_eq_true rfl) hl.1 rfl hX2 (fun r ω2 H2 locs2 hq hP2 hS2 => ?_)
  obtain ⟨u, rfl, hR2⟩ := hq
  refine lv_pop (va := .int u) (rest := []) hx hb dl_475 rfl ?_
  exact lv_goto (tgt := 837) hx hb dl_476 (by decide) (kk ω2 H2 locs2 hR2 hP2 hS2)
set_option maxRecDepth 100000 in
theorem law_11 {p : Program} {l : Launch} {e : Env} {s : State} {m : MethodId} {below : List Frame} {meth : Method} {c : Code} {b L : Nat} {xs : Nat → Int32} {G : va_G} {cI cJ : ClassId} {ad : Nat → Nat} {H : Heap} {locs : List Loc} {ls : Array Slot} {i : Nat} {ω : Om} (C : lw_C p s m meth c b L xs G cI cJ ad) (hi : i + 4 ≤ L) (hL : L ≤ 2048) (hR : R ω) (hP : va_P G vwCl (me_cc cI cJ ad ω) H) (hS : va_S (fun q => s.heap.size ≤ q) s.heap H locs) (hl : lv_has ls 4 [(0, .ref b), (1, .ref (ad 0)), (2, .ref (ad 29)), (3, .int (nI i))]) (kk : ∀ (ω2 : Om) (H2 : Heap) (locs2 : List Loc), R ω2 → va_P G vwCl (me_cc cI cJ ad ω2) H2 → va_S (fun q => s.heap.size ≤ q) s.heap H2 locs2 → W p l e room_1 s m #[Value.ref b] below meth c H2 locs2 46 5068 (lw_Z below #[Value.ref b] s) (F0 m 837 ls [])) : W p l e room_1 s m #[Value.ref b] below meth c H locs 46 5068 (lw_Z below #[Value.ref b] s) (F0 m 479 ls []) := by
  obtain ⟨⟨hx, hb, hr, hml, hown, hts, hX, hbl, hlocks, hgv⟩, hE, had⟩ := id C
  have hbA : ¬ (fun q : Nat => s.heap.size ≤ q) b := Nat.not_le.mpr hbl
  have hin1 : vp_in (nI i + 1) L := by rw [show (1 : Int32) = nI 1 from rfl, nI_add]; exact vp_in_nI (by omega) (by omega)
  have hin2 : vp_in (nI i + 2) L := by rw [show (2 : Int32) = nI 2 from rfl, nI_add]; exact vp_in_nI (by omega) (by omega)
  have hin3 : vp_in (nI i + 3) L := by rw [show (3 : Int32) = nI 3 from rfl, nI_add]; exact vp_in_nI (by omega) (by omega)
  have hX1 := Pr.q (q_75 hR ((xs (nI i + 1).toNatClampNeg)) ((xs (nI i + 2).toNatClampNeg))) (fun _ _ ω2 => R ω2) (fun _ _ _ h => h)
  refine lv_aload_n hx hb dl_479 rfl (lv_at hl 1 rfl) ?_
  refine lv_aload_n hx hb dl_480 rfl (lv_at hl 0 rfl) ?_
  refine lv_iload_n hx hb dl_481 rfl (lv_at hl 3 rfl) ?_
  refine lv_iconst (v := 1) hx hb dl_482 (by decide) ?_
  refine lv_iadd hx hb dl_483 ?_
  refine va_sld hx hb hX hbl hbA hS hin1 dl_484 ?_
  refine lv_aload_n hx hb dl_485 rfl (lv_at hl 0 rfl) ?_
  refine lv_iload_n hx hb dl_486 rfl (lv_at hl 3 rfl) ?_
  refine lv_iconst (v := 2) hx hb dl_487 (by decide) ?_
  refine lv_iadd hx hb dl_488 ?_
  refine va_sld hx hb hX hbl hbA hS hin2 dl_489 ?_
  refine lw_cv (z := 75) (k := 0) (j := 552) (as := [.int (xs (nI i + 1).toNatClampNeg), .int (xs (nI i + 2).toNatClampNeg)]) (rest := []) C hP hS dl_490 (by decide) (by decide +kernel) (by decide +kernel) (by decide +kernel) rfl (by decide +kernel) (Nat.le_of_ble_eq_true rfl) hl.1 rfl hX1 (fun r ω1 H1 locs1 hq hP1 hS1 => ?_)
  obtain ⟨v, rfl, hX2⟩ := hq
  have hS := hS1
  refine lv_pop (va := .int v) (rest := []) hx hb dl_493 rfl ?_
  refine lv_aload_n hx hb dl_494 rfl (lv_at hl 2 rfl) ?_
  refine lv_aload_n hx hb dl_495 rfl (lv_at hl 0 rfl) ?_
  refine lv_iload_n hx hb dl_496 rfl (lv_at hl 3 rfl) ?_
  refine lv_iconst (v := 1) hx hb dl_497 (by decide) ?_
  refine lv_iadd hx hb dl_498 ?_
  refine va_sld hx hb hX hbl hbA hS hin1 dl_499 ?_
  refine lv_aload_n hx hb dl_500 rfl (lv_at hl 0 rfl) ?_
  refine lv_iload_n hx hb dl_501 rfl (lv_at hl 3 rfl) ?_
  refine lv_iconst (v := 2) hx hb dl_502 (by decide) ?_
  refine lv_iadd hx hb dl_503 ?_
  refine va_sld hx hb hX hbl hbA hS hin2 dl_504 ?_
  refine lw_cv (z := 148) (k := 29) (j := 1044) (as := [.int (xs (nI i + 1).toNatClampNeg), .int (xs (nI i + 2).toNatClampNeg)]) (rest := []) C hP1 hS1 dl_505 (by decide) (by decide +kernel) (by decide +kernel) (by decide +kernel) rfl (by decide +kernel) (Nat.le_of_ble_eq_true rfl) hl.1 rfl hX2 (fun r ω2 H2 locs2 hq hP2 hS2 => ?_)
  obtain ⟨u, rfl, hR2⟩ := hq
  refine lv_pop (va := .int u) (rest := []) hx hb dl_508 rfl ?_
  exact lv_goto (tgt := 837) hx hb dl_509 (by decide) (kk ω2 H2 locs2 hR2 hP2 hS2)
set_option maxRecDepth 100000 in
theorem law_12 {p : Program} {l : Launch} {e : Env} {s : State} {m : MethodId} {below : List Frame} {meth : Method} {c : Code} {b L : Nat} {xs : Nat → Int32} {G : va_G} {cI cJ : ClassId} {ad : Nat → Nat} {H : Heap} {locs : List Loc} {ls : Array Slot} {i : Nat} {ω : Om} (C : lw_C p s m meth c b L xs G cI cJ ad) (hi : i + 4 ≤ L) (hL : L ≤ 2048) (hR : R ω) (hP : va_P G vwCl (me_cc cI cJ ad ω) H) (hS : va_S (fun q => s.heap.size ≤ q) s.heap H locs) (hl : lv_has ls 4 [(0, .ref b), (1, .ref (ad 0)), (2, .ref (ad 29)), (3, .int (nI i))]) (kk : ∀ (ω2 : Om) (H2 : Heap) (locs2 : List Loc), R ω2 → va_P G vwCl (me_cc cI cJ ad ω2) H2 → va_S (fun q => s.heap.size ≤ q) s.heap H2 locs2 → W p l e room_1 s m #[Value.ref b] below meth c H2 locs2 46 5068 (lw_Z below #[Value.ref b] s) (F0 m 837 ls [])) : W p l e room_1 s m #[Value.ref b] below meth c H locs 46 5068 (lw_Z below #[Value.ref b] s) (F0 m 512 ls []) := by
  obtain ⟨⟨hx, hb, hr, hml, hown, hts, hX, hbl, hlocks, hgv⟩, hE, had⟩ := id C
  have hbA : ¬ (fun q : Nat => s.heap.size ≤ q) b := Nat.not_le.mpr hbl
  have hin1 : vp_in (nI i + 1) L := by rw [show (1 : Int32) = nI 1 from rfl, nI_add]; exact vp_in_nI (by omega) (by omega)
  have hin2 : vp_in (nI i + 2) L := by rw [show (2 : Int32) = nI 2 from rfl, nI_add]; exact vp_in_nI (by omega) (by omega)
  have hin3 : vp_in (nI i + 3) L := by rw [show (3 : Int32) = nI 3 from rfl, nI_add]; exact vp_in_nI (by omega) (by omega)
  have hX1 := Pr.q (q_76 hR ) (fun _ _ ω2 => R ω2) (fun _ _ _ h => h)
  refine lv_aload_n hx hb dl_512 rfl (lv_at hl 1 rfl) ?_
  refine lw_cv (z := 76) (k := 0) (j := 588) (as := []) (rest := []) C hP hS dl_513 (by decide) (by decide +kernel) (by decide +kernel) (by decide +kernel) rfl (by decide +kernel) (Nat.le_of_ble_eq_true rfl) hl.1 rfl hX1 (fun r ω1 H1 locs1 hq hP1 hS1 => ?_)
  obtain ⟨v, rfl, hX2⟩ := hq
  have hS := hS1
  refine lv_pop (va := .int v) (rest := []) hx hb dl_516 rfl ?_
  refine lv_aload_n hx hb dl_517 rfl (lv_at hl 2 rfl) ?_
  refine lw_cv (z := 149) (k := 29) (j := 1064) (as := []) (rest := []) C hP1 hS1 dl_518 (by decide) (by decide +kernel) (by decide +kernel) (by decide +kernel) rfl (by decide +kernel) (Nat.le_of_ble_eq_true rfl) hl.1 rfl hX2 (fun r ω2 H2 locs2 hq hP2 hS2 => ?_)
  obtain ⟨u, rfl, hR2⟩ := hq
  refine lv_pop (va := .int u) (rest := []) hx hb dl_521 rfl ?_
  exact lv_goto (tgt := 837) hx hb dl_522 (by decide) (kk ω2 H2 locs2 hR2 hP2 hS2)
set_option maxRecDepth 100000 in
theorem law_13 {p : Program} {l : Launch} {e : Env} {s : State} {m : MethodId} {below : List Frame} {meth : Method} {c : Code} {b L : Nat} {xs : Nat → Int32} {G : va_G} {cI cJ : ClassId} {ad : Nat → Nat} {H : Heap} {locs : List Loc} {ls : Array Slot} {i : Nat} {ω : Om} (C : lw_C p s m meth c b L xs G cI cJ ad) (hi : i + 4 ≤ L) (hL : L ≤ 2048) (hR : R ω) (hP : va_P G vwCl (me_cc cI cJ ad ω) H) (hS : va_S (fun q => s.heap.size ≤ q) s.heap H locs) (hl : lv_has ls 4 [(0, .ref b), (1, .ref (ad 0)), (2, .ref (ad 29)), (3, .int (nI i))]) (kk : ∀ (ω2 : Om) (H2 : Heap) (locs2 : List Loc), R ω2 → va_P G vwCl (me_cc cI cJ ad ω2) H2 → va_S (fun q => s.heap.size ≤ q) s.heap H2 locs2 → W p l e room_1 s m #[Value.ref b] below meth c H2 locs2 46 5068 (lw_Z below #[Value.ref b] s) (F0 m 837 ls [])) : W p l e room_1 s m #[Value.ref b] below meth c H locs 46 5068 (lw_Z below #[Value.ref b] s) (F0 m 525 ls []) := by
  obtain ⟨⟨hx, hb, hr, hml, hown, hts, hX, hbl, hlocks, hgv⟩, hE, had⟩ := id C
  have hbA : ¬ (fun q : Nat => s.heap.size ≤ q) b := Nat.not_le.mpr hbl
  have hin1 : vp_in (nI i + 1) L := by rw [show (1 : Int32) = nI 1 from rfl, nI_add]; exact vp_in_nI (by omega) (by omega)
  have hin2 : vp_in (nI i + 2) L := by rw [show (2 : Int32) = nI 2 from rfl, nI_add]; exact vp_in_nI (by omega) (by omega)
  have hin3 : vp_in (nI i + 3) L := by rw [show (3 : Int32) = nI 3 from rfl, nI_add]; exact vp_in_nI (by omega) (by omega)
  have hX1 := q_77 hR ((xs (nI i + 1).toNatClampNeg)) (fun _ _ ω2 => R ω2) (fun _ _ _ h => h)
  refine lv_aload_n hx hb dl_525 rfl (lv_at hl 1 rfl) ?_
  refine lv_aload_n hx hb dl_526 rfl (lv_at hl 0 rfl) ?_
  refine lv_iload_n hx hb dl_527 rfl (lv_at hl 3 rfl) ?_
  refine lv_iconst (v := 1) hx hb dl_528 (by decide) ?_
  refine lv_iadd hx hb dl_529 ?_
  refine va_sld hx hb hX hbl hbA hS hin1 dl_530 ?_
  refine lw_cv (z := 77) (k := 0) (j := 592) (as := [.int (xs (nI i + 1).toNatClampNeg)]) (rest := []) C hP hS dl_531 (by decide) (by decide +kernel) (by decide +kernel) (by decide +kernel) rfl (by decide +kernel) (Nat.le_of_ble_eq_true rfl) hl.1 rfl hX1 (fun r ω1 H1 locs1 hq hP1 hS1 => ?_)
  obtain ⟨v, rfl, hX2⟩ := hq
  have hS := hS1
  refine lv_pop2_2 (va := .long v) (rest := []) hx hb dl_534 rfl ?_
  refine lv_aload_n hx hb dl_535 rfl (lv_at hl 2 rfl) ?_
  refine lv_aload_n hx hb dl_536 rfl (lv_at hl 0 rfl) ?_
  refine lv_iload_n hx hb dl_537 rfl (lv_at hl 3 rfl) ?_
  refine lv_iconst (v := 1) hx hb dl_538 (by decide) ?_
  refine lv_iadd hx hb dl_539 ?_
  refine va_sld hx hb hX hbl hbA hS hin1 dl_540 ?_
  refine lw_cv (z := 155) (k := 29) (j := 1068) (as := [.int (xs (nI i + 1).toNatClampNeg)]) (rest := []) C hP1 hS1 dl_541 (by decide) (by decide +kernel) (by decide +kernel) (by decide +kernel) rfl (by decide +kernel) (Nat.le_of_ble_eq_true rfl) hl.1 rfl hX2 (fun r ω2 H2 locs2 hq hP2 hS2 => ?_)
  obtain ⟨u, rfl, hR2⟩ := hq
  refine lv_pop2_2 (va := .long u) (rest := []) hx hb dl_544 rfl ?_
  exact lv_goto (tgt := 837) hx hb dl_545 (by decide) (kk ω2 H2 locs2 hR2 hP2 hS2)
set_option maxRecDepth 100000 in
theorem law_14 {p : Program} {l : Launch} {e : Env} {s : State} {m : MethodId} {below : List Frame} {meth : Method} {c : Code} {b L : Nat} {xs : Nat → Int32} {G : va_G} {cI cJ : ClassId} {ad : Nat → Nat} {H : Heap} {locs : List Loc} {ls : Array Slot} {i : Nat} {ω : Om} (C : lw_C p s m meth c b L xs G cI cJ ad) (hi : i + 4 ≤ L) (hL : L ≤ 2048) (hR : R ω) (hP : va_P G vwCl (me_cc cI cJ ad ω) H) (hS : va_S (fun q => s.heap.size ≤ q) s.heap H locs) (hl : lv_has ls 4 [(0, .ref b), (1, .ref (ad 0)), (2, .ref (ad 29)), (3, .int (nI i))]) (kk : ∀ (ω2 : Om) (H2 : Heap) (locs2 : List Loc), R ω2 → va_P G vwCl (me_cc cI cJ ad ω2) H2 → va_S (fun q => s.heap.size ≤ q) s.heap H2 locs2 → W p l e room_1 s m #[Value.ref b] below meth c H2 locs2 46 5068 (lw_Z below #[Value.ref b] s) (F0 m 837 ls [])) : W p l e room_1 s m #[Value.ref b] below meth c H locs 46 5068 (lw_Z below #[Value.ref b] s) (F0 m 548 ls []) := by
  obtain ⟨⟨hx, hb, hr, hml, hown, hts, hX, hbl, hlocks, hgv⟩, hE, had⟩ := id C
  have hbA : ¬ (fun q : Nat => s.heap.size ≤ q) b := Nat.not_le.mpr hbl
  have hin1 : vp_in (nI i + 1) L := by rw [show (1 : Int32) = nI 1 from rfl, nI_add]; exact vp_in_nI (by omega) (by omega)
  have hin2 : vp_in (nI i + 2) L := by rw [show (2 : Int32) = nI 2 from rfl, nI_add]; exact vp_in_nI (by omega) (by omega)
  have hin3 : vp_in (nI i + 3) L := by rw [show (3 : Int32) = nI 3 from rfl, nI_add]; exact vp_in_nI (by omega) (by omega)
  have hX1 := q_78 hR ((xs (nI i + 1).toNatClampNeg)) (fun _ _ ω2 => R ω2) (fun _ _ _ h => h)
  refine lv_aload_n hx hb dl_548 rfl (lv_at hl 1 rfl) ?_
  refine lv_aload_n hx hb dl_549 rfl (lv_at hl 0 rfl) ?_
  refine lv_iload_n hx hb dl_550 rfl (lv_at hl 3 rfl) ?_
  refine lv_iconst (v := 1) hx hb dl_551 (by decide) ?_
  refine lv_iadd hx hb dl_552 ?_
  refine va_sld hx hb hX hbl hbA hS hin1 dl_553 ?_
  refine lw_cv (z := 78) (k := 0) (j := 663) (as := [.int (xs (nI i + 1).toNatClampNeg)]) (rest := []) C hP hS dl_554 (by decide) (by decide +kernel) (by decide +kernel) (by decide +kernel) rfl (by decide +kernel) (Nat.le_of_ble_eq_true rfl) hl.1 rfl hX1 (fun r ω1 H1 locs1 hq hP1 hS1 => ?_)
  obtain ⟨v, rfl, hX2⟩ := hq
  have hS := hS1
  refine lv_pop (va := .int v) (rest := []) hx hb dl_557 rfl ?_
  refine lv_aload_n hx hb dl_558 rfl (lv_at hl 2 rfl) ?_
  refine lv_aload_n hx hb dl_559 rfl (lv_at hl 0 rfl) ?_
  refine lv_iload_n hx hb dl_560 rfl (lv_at hl 3 rfl) ?_
  refine lv_iconst (v := 1) hx hb dl_561 (by decide) ?_
  refine lv_iadd hx hb dl_562 ?_
  refine va_sld hx hb hX hbl hbA hS hin1 dl_563 ?_
  refine lw_cv (z := 156) (k := 29) (j := 1091) (as := [.int (xs (nI i + 1).toNatClampNeg)]) (rest := []) C hP1 hS1 dl_564 (by decide) (by decide +kernel) (by decide +kernel) (by decide +kernel) rfl (by decide +kernel) (Nat.le_of_ble_eq_true rfl) hl.1 rfl hX2 (fun r ω2 H2 locs2 hq hP2 hS2 => ?_)
  obtain ⟨u, rfl, hR2⟩ := hq
  refine lv_pop (va := .int u) (rest := []) hx hb dl_567 rfl ?_
  exact lv_goto (tgt := 837) hx hb dl_568 (by decide) (kk ω2 H2 locs2 hR2 hP2 hS2)
set_option maxRecDepth 100000 in
theorem law_15 {p : Program} {l : Launch} {e : Env} {s : State} {m : MethodId} {below : List Frame} {meth : Method} {c : Code} {b L : Nat} {xs : Nat → Int32} {G : va_G} {cI cJ : ClassId} {ad : Nat → Nat} {H : Heap} {locs : List Loc} {ls : Array Slot} {i : Nat} {ω : Om} (C : lw_C p s m meth c b L xs G cI cJ ad) (hi : i + 4 ≤ L) (hL : L ≤ 2048) (hR : R ω) (hP : va_P G vwCl (me_cc cI cJ ad ω) H) (hS : va_S (fun q => s.heap.size ≤ q) s.heap H locs) (hl : lv_has ls 4 [(0, .ref b), (1, .ref (ad 0)), (2, .ref (ad 29)), (3, .int (nI i))]) (kk : ∀ (ω2 : Om) (H2 : Heap) (locs2 : List Loc), R ω2 → va_P G vwCl (me_cc cI cJ ad ω2) H2 → va_S (fun q => s.heap.size ≤ q) s.heap H2 locs2 → W p l e room_1 s m #[Value.ref b] below meth c H2 locs2 46 5068 (lw_Z below #[Value.ref b] s) (F0 m 837 ls [])) : W p l e room_1 s m #[Value.ref b] below meth c H locs 46 5068 (lw_Z below #[Value.ref b] s) (F0 m 571 ls []) := by
  obtain ⟨⟨hx, hb, hr, hml, hown, hts, hX, hbl, hlocks, hgv⟩, hE, had⟩ := id C
  have hbA : ¬ (fun q : Nat => s.heap.size ≤ q) b := Nat.not_le.mpr hbl
  have hin1 : vp_in (nI i + 1) L := by rw [show (1 : Int32) = nI 1 from rfl, nI_add]; exact vp_in_nI (by omega) (by omega)
  have hin2 : vp_in (nI i + 2) L := by rw [show (2 : Int32) = nI 2 from rfl, nI_add]; exact vp_in_nI (by omega) (by omega)
  have hin3 : vp_in (nI i + 3) L := by rw [show (3 : Int32) = nI 3 from rfl, nI_add]; exact vp_in_nI (by omega) (by omega)
  have hX1 := q_79 hR  (fun _ _ ω2 => R ω2) (fun _ _ _ h => h)
  refine lv_aload_n hx hb dl_571 rfl (lv_at hl 1 rfl) ?_
  refine lw_cv (z := 79) (k := 0) (j := 671) (as := []) (rest := []) C hP hS dl_572 (by decide) (by decide +kernel) (by decide +kernel) (by decide +kernel) rfl (by decide +kernel) (Nat.le_of_ble_eq_true rfl) hl.1 rfl hX1 (fun r ω1 H1 locs1 hq hP1 hS1 => ?_)
  obtain ⟨v, rfl, hX2⟩ := hq
  have hS := hS1
  refine lv_pop (va := .int v) (rest := []) hx hb dl_575 rfl ?_
  refine lv_aload_n hx hb dl_576 rfl (lv_at hl 2 rfl) ?_
  refine lw_cv (z := 158) (k := 29) (j := 1095) (as := []) (rest := []) C hP1 hS1 dl_577 (by decide) (by decide +kernel) (by decide +kernel) (by decide +kernel) rfl (by decide +kernel) (Nat.le_of_ble_eq_true rfl) hl.1 rfl hX2 (fun r ω2 H2 locs2 hq hP2 hS2 => ?_)
  obtain ⟨u, rfl, hR2⟩ := hq
  refine lv_pop (va := .int u) (rest := []) hx hb dl_580 rfl ?_
  exact lv_goto (tgt := 837) hx hb dl_581 (by decide) (kk ω2 H2 locs2 hR2 hP2 hS2)
set_option maxRecDepth 100000 in
theorem law_16 {p : Program} {l : Launch} {e : Env} {s : State} {m : MethodId} {below : List Frame} {meth : Method} {c : Code} {b L : Nat} {xs : Nat → Int32} {G : va_G} {cI cJ : ClassId} {ad : Nat → Nat} {H : Heap} {locs : List Loc} {ls : Array Slot} {i : Nat} {ω : Om} (C : lw_C p s m meth c b L xs G cI cJ ad) (hi : i + 4 ≤ L) (hL : L ≤ 2048) (hR : R ω) (hP : va_P G vwCl (me_cc cI cJ ad ω) H) (hS : va_S (fun q => s.heap.size ≤ q) s.heap H locs) (hl : lv_has ls 4 [(0, .ref b), (1, .ref (ad 0)), (2, .ref (ad 29)), (3, .int (nI i))]) (kk : ∀ (ω2 : Om) (H2 : Heap) (locs2 : List Loc), R ω2 → va_P G vwCl (me_cc cI cJ ad ω2) H2 → va_S (fun q => s.heap.size ≤ q) s.heap H2 locs2 → W p l e room_1 s m #[Value.ref b] below meth c H2 locs2 46 5068 (lw_Z below #[Value.ref b] s) (F0 m 837 ls [])) : W p l e room_1 s m #[Value.ref b] below meth c H locs 46 5068 (lw_Z below #[Value.ref b] s) (F0 m 584 ls []) := by
  obtain ⟨⟨hx, hb, hr, hml, hown, hts, hX, hbl, hlocks, hgv⟩, hE, had⟩ := id C
  have hbA : ¬ (fun q : Nat => s.heap.size ≤ q) b := Nat.not_le.mpr hbl
  have hin1 : vp_in (nI i + 1) L := by rw [show (1 : Int32) = nI 1 from rfl, nI_add]; exact vp_in_nI (by omega) (by omega)
  have hin2 : vp_in (nI i + 2) L := by rw [show (2 : Int32) = nI 2 from rfl, nI_add]; exact vp_in_nI (by omega) (by omega)
  have hin3 : vp_in (nI i + 3) L := by rw [show (3 : Int32) = nI 3 from rfl, nI_add]; exact vp_in_nI (by omega) (by omega)
  have hX1 := q_80 hR ((xs (nI i + 1).toNatClampNeg)) (fun _ _ ω2 => R ω2) (fun _ _ _ h => h)
  refine lv_aload_n hx hb dl_584 rfl (lv_at hl 1 rfl) ?_
  refine lv_aload_n hx hb dl_585 rfl (lv_at hl 0 rfl) ?_
  refine lv_iload_n hx hb dl_586 rfl (lv_at hl 3 rfl) ?_
  refine lv_iconst (v := 1) hx hb dl_587 (by decide) ?_
  refine lv_iadd hx hb dl_588 ?_
  refine va_sld hx hb hX hbl hbA hS hin1 dl_589 ?_
  refine lw_cv (z := 80) (k := 0) (j := 687) (as := [.int (xs (nI i + 1).toNatClampNeg)]) (rest := []) C hP hS dl_590 (by decide) (by decide +kernel) (by decide +kernel) (by decide +kernel) rfl (by decide +kernel) (Nat.le_of_ble_eq_true rfl) hl.1 rfl hX1 (fun r ω1 H1 locs1 hq hP1 hS1 => ?_)
  obtain ⟨v, rfl, hX2⟩ := hq
  have hS := hS1
  refine lv_pop (va := .int v) (rest := []) hx hb dl_593 rfl ?_
  refine lv_aload_n hx hb dl_594 rfl (lv_at hl 2 rfl) ?_
  refine lv_aload_n hx hb dl_595 rfl (lv_at hl 0 rfl) ?_
  refine lv_iload_n hx hb dl_596 rfl (lv_at hl 3 rfl) ?_
  refine lv_iconst (v := 1) hx hb dl_597 (by decide) ?_
  refine lv_iadd hx hb dl_598 ?_
  refine va_sld hx hb hX hbl hbA hS hin1 dl_599 ?_
  refine lw_cv (z := 162) (k := 29) (j := 1104) (as := [.int (xs (nI i + 1).toNatClampNeg)]) (rest := []) C hP1 hS1 dl_600 (by decide) (by decide +kernel) (by decide +kernel) (by decide +kernel) rfl (by decide +kernel) (Nat.le_of_ble_eq_true rfl) hl.1 rfl hX2 (fun r ω2 H2 locs2 hq hP2 hS2 => ?_)
  obtain ⟨u, rfl, hR2⟩ := hq
  refine lv_pop (va := .int u) (rest := []) hx hb dl_603 rfl ?_
  exact lv_goto (tgt := 837) hx hb dl_604 (by decide) (kk ω2 H2 locs2 hR2 hP2 hS2)
set_option maxRecDepth 100000 in
theorem law_17 {p : Program} {l : Launch} {e : Env} {s : State} {m : MethodId} {below : List Frame} {meth : Method} {c : Code} {b L : Nat} {xs : Nat → Int32} {G : va_G} {cI cJ : ClassId} {ad : Nat → Nat} {H : Heap} {locs : List Loc} {ls : Array Slot} {i : Nat} {ω : Om} (C : lw_C p s m meth c b L xs G cI cJ ad) (hi : i + 4 ≤ L) (hL : L ≤ 2048) (hR : R ω) (hP : va_P G vwCl (me_cc cI cJ ad ω) H) (hS : va_S (fun q => s.heap.size ≤ q) s.heap H locs) (hl : lv_has ls 4 [(0, .ref b), (1, .ref (ad 0)), (2, .ref (ad 29)), (3, .int (nI i))]) (kk : ∀ (ω2 : Om) (H2 : Heap) (locs2 : List Loc), R ω2 → va_P G vwCl (me_cc cI cJ ad ω2) H2 → va_S (fun q => s.heap.size ≤ q) s.heap H2 locs2 → W p l e room_1 s m #[Value.ref b] below meth c H2 locs2 46 5068 (lw_Z below #[Value.ref b] s) (F0 m 837 ls [])) : W p l e room_1 s m #[Value.ref b] below meth c H locs 46 5068 (lw_Z below #[Value.ref b] s) (F0 m 607 ls []) := by
  obtain ⟨⟨hx, hb, hr, hml, hown, hts, hX, hbl, hlocks, hgv⟩, hE, had⟩ := id C
  have hbA : ¬ (fun q : Nat => s.heap.size ≤ q) b := Nat.not_le.mpr hbl
  have hin1 : vp_in (nI i + 1) L := by rw [show (1 : Int32) = nI 1 from rfl, nI_add]; exact vp_in_nI (by omega) (by omega)
  have hin2 : vp_in (nI i + 2) L := by rw [show (2 : Int32) = nI 2 from rfl, nI_add]; exact vp_in_nI (by omega) (by omega)
  have hin3 : vp_in (nI i + 3) L := by rw [show (3 : Int32) = nI 3 from rfl, nI_add]; exact vp_in_nI (by omega) (by omega)
  have hX1 := q_81 hR ((xs (nI i + 1).toNatClampNeg)) (fun _ _ ω2 => R ω2) (fun _ _ _ h => h)
  refine lv_aload_n hx hb dl_607 rfl (lv_at hl 1 rfl) ?_
  refine lv_aload_n hx hb dl_608 rfl (lv_at hl 0 rfl) ?_
  refine lv_iload_n hx hb dl_609 rfl (lv_at hl 3 rfl) ?_
  refine lv_iconst (v := 1) hx hb dl_610 (by decide) ?_
  refine lv_iadd hx hb dl_611 ?_
  refine va_sld hx hb hX hbl hbA hS hin1 dl_612 ?_
  refine lw_cv (z := 81) (k := 0) (j := 703) (as := [.int (xs (nI i + 1).toNatClampNeg)]) (rest := []) C hP hS dl_613 (by decide) (by decide +kernel) (by decide +kernel) (by decide +kernel) rfl (by decide +kernel) (Nat.le_of_ble_eq_true rfl) hl.1 rfl hX1 (fun r ω1 H1 locs1 hq hP1 hS1 => ?_)
  obtain ⟨v, rfl, hX2⟩ := hq
  have hS := hS1
  refine lv_pop2_2 (va := .long v) (rest := []) hx hb dl_616 rfl ?_
  refine lv_aload_n hx hb dl_617 rfl (lv_at hl 2 rfl) ?_
  refine lv_aload_n hx hb dl_618 rfl (lv_at hl 0 rfl) ?_
  refine lv_iload_n hx hb dl_619 rfl (lv_at hl 3 rfl) ?_
  refine lv_iconst (v := 1) hx hb dl_620 (by decide) ?_
  refine lv_iadd hx hb dl_621 ?_
  refine va_sld hx hb hX hbl hbA hS hin1 dl_622 ?_
  refine lw_cv (z := 165) (k := 29) (j := 1118) (as := [.int (xs (nI i + 1).toNatClampNeg)]) (rest := []) C hP1 hS1 dl_623 (by decide) (by decide +kernel) (by decide +kernel) (by decide +kernel) rfl (by decide +kernel) (Nat.le_of_ble_eq_true rfl) hl.1 rfl hX2 (fun r ω2 H2 locs2 hq hP2 hS2 => ?_)
  obtain ⟨u, rfl, hR2⟩ := hq
  refine lv_pop2_2 (va := .long u) (rest := []) hx hb dl_626 rfl ?_
  exact lv_goto (tgt := 837) hx hb dl_627 (by decide) (kk ω2 H2 locs2 hR2 hP2 hS2)
set_option maxRecDepth 100000 in
theorem law_18 {p : Program} {l : Launch} {e : Env} {s : State} {m : MethodId} {below : List Frame} {meth : Method} {c : Code} {b L : Nat} {xs : Nat → Int32} {G : va_G} {cI cJ : ClassId} {ad : Nat → Nat} {H : Heap} {locs : List Loc} {ls : Array Slot} {i : Nat} {ω : Om} (C : lw_C p s m meth c b L xs G cI cJ ad) (hi : i + 4 ≤ L) (hL : L ≤ 2048) (hR : R ω) (hP : va_P G vwCl (me_cc cI cJ ad ω) H) (hS : va_S (fun q => s.heap.size ≤ q) s.heap H locs) (hl : lv_has ls 4 [(0, .ref b), (1, .ref (ad 0)), (2, .ref (ad 29)), (3, .int (nI i))]) (kk : ∀ (ω2 : Om) (H2 : Heap) (locs2 : List Loc), R ω2 → va_P G vwCl (me_cc cI cJ ad ω2) H2 → va_S (fun q => s.heap.size ≤ q) s.heap H2 locs2 → W p l e room_1 s m #[Value.ref b] below meth c H2 locs2 46 5068 (lw_Z below #[Value.ref b] s) (F0 m 837 ls [])) : W p l e room_1 s m #[Value.ref b] below meth c H locs 46 5068 (lw_Z below #[Value.ref b] s) (F0 m 630 ls []) := by
  obtain ⟨⟨hx, hb, hr, hml, hown, hts, hX, hbl, hlocks, hgv⟩, hE, had⟩ := id C
  have hbA : ¬ (fun q : Nat => s.heap.size ≤ q) b := Nat.not_le.mpr hbl
  have hin1 : vp_in (nI i + 1) L := by rw [show (1 : Int32) = nI 1 from rfl, nI_add]; exact vp_in_nI (by omega) (by omega)
  have hin2 : vp_in (nI i + 2) L := by rw [show (2 : Int32) = nI 2 from rfl, nI_add]; exact vp_in_nI (by omega) (by omega)
  have hin3 : vp_in (nI i + 3) L := by rw [show (3 : Int32) = nI 3 from rfl, nI_add]; exact vp_in_nI (by omega) (by omega)
  have hX1 := q_82 hR ((xs (nI i + 1).toNatClampNeg)) ((xs (nI i + 2).toNatClampNeg)) (fun _ _ ω2 => R ω2) (fun _ _ _ h => h)
  refine lv_aload_n hx hb dl_630 rfl (lv_at hl 1 rfl) ?_
  refine lv_aload_n hx hb dl_631 rfl (lv_at hl 0 rfl) ?_
  refine lv_iload_n hx hb dl_632 rfl (lv_at hl 3 rfl) ?_
  refine lv_iconst (v := 1) hx hb dl_633 (by decide) ?_
  refine lv_iadd hx hb dl_634 ?_
  refine va_sld hx hb hX hbl hbA hS hin1 dl_635 ?_
  refine lv_aload_n hx hb dl_636 rfl (lv_at hl 0 rfl) ?_
  refine lv_iload_n hx hb dl_637 rfl (lv_at hl 3 rfl) ?_
  refine lv_iconst (v := 2) hx hb dl_638 (by decide) ?_
  refine lv_iadd hx hb dl_639 ?_
  refine va_sld hx hb hX hbl hbA hS hin2 dl_640 ?_
  refine lw_cv (z := 82) (k := 0) (j := 728) (as := [.int (xs (nI i + 1).toNatClampNeg), .int (xs (nI i + 2).toNatClampNeg)]) (rest := []) C hP hS dl_641 (by decide) (by decide +kernel) (by decide +kernel) (by decide +kernel) rfl (by decide +kernel) (Nat.le_of_ble_eq_true rfl) hl.1 rfl hX1 (fun r ω1 H1 locs1 hq hP1 hS1 => ?_)
  obtain ⟨v, rfl, hX2⟩ := hq
  have hS := hS1
  refine lv_pop2_2 (va := .long v) (rest := []) hx hb dl_644 rfl ?_
  refine lv_aload_n hx hb dl_645 rfl (lv_at hl 2 rfl) ?_
  refine lv_aload_n hx hb dl_646 rfl (lv_at hl 0 rfl) ?_
  refine lv_iload_n hx hb dl_647 rfl (lv_at hl 3 rfl) ?_
  refine lv_iconst (v := 1) hx hb dl_648 (by decide) ?_
  refine lv_iadd hx hb dl_649 ?_
  refine va_sld hx hb hX hbl hbA hS hin1 dl_650 ?_
  refine lv_aload_n hx hb dl_651 rfl (lv_at hl 0 rfl) ?_
  refine lv_iload_n hx hb dl_652 rfl (lv_at hl 3 rfl) ?_
  refine lv_iconst (v := 2) hx hb dl_653 (by decide) ?_
  refine lv_iadd hx hb dl_654 ?_
  refine va_sld hx hb hX hbl hbA hS hin2 dl_655 ?_
  refine lw_cv (z := 166) (k := 29) (j := 1131) (as := [.int (xs (nI i + 1).toNatClampNeg), .int (xs (nI i + 2).toNatClampNeg)]) (rest := []) C hP1 hS1 dl_656 (by decide) (by decide +kernel) (by decide +kernel) (by decide +kernel) rfl (by decide +kernel) (Nat.le_of_ble_eq_true rfl) hl.1 rfl hX2 (fun r ω2 H2 locs2 hq hP2 hS2 => ?_)
  obtain ⟨u, rfl, hR2⟩ := hq
  refine lv_pop2_2 (va := .long u) (rest := []) hx hb dl_659 rfl ?_
  exact lv_goto (tgt := 837) hx hb dl_660 (by decide) (kk ω2 H2 locs2 hR2 hP2 hS2)
set_option maxRecDepth 100000 in
theorem law_19 {p : Program} {l : Launch} {e : Env} {s : State} {m : MethodId} {below : List Frame} {meth : Method} {c : Code} {b L : Nat} {xs : Nat → Int32} {G : va_G} {cI cJ : ClassId} {ad : Nat → Nat} {H : Heap} {locs : List Loc} {ls : Array Slot} {i : Nat} {ω : Om} (C : lw_C p s m meth c b L xs G cI cJ ad) (hi : i + 4 ≤ L) (hL : L ≤ 2048) (hR : R ω) (hP : va_P G vwCl (me_cc cI cJ ad ω) H) (hS : va_S (fun q => s.heap.size ≤ q) s.heap H locs) (hl : lv_has ls 4 [(0, .ref b), (1, .ref (ad 0)), (2, .ref (ad 29)), (3, .int (nI i))]) (kk : ∀ (ω2 : Om) (H2 : Heap) (locs2 : List Loc), R ω2 → va_P G vwCl (me_cc cI cJ ad ω2) H2 → va_S (fun q => s.heap.size ≤ q) s.heap H2 locs2 → W p l e room_1 s m #[Value.ref b] below meth c H2 locs2 46 5068 (lw_Z below #[Value.ref b] s) (F0 m 837 ls [])) : W p l e room_1 s m #[Value.ref b] below meth c H locs 46 5068 (lw_Z below #[Value.ref b] s) (F0 m 663 ls []) := by
  obtain ⟨⟨hx, hb, hr, hml, hown, hts, hX, hbl, hlocks, hgv⟩, hE, had⟩ := id C
  have hbA : ¬ (fun q : Nat => s.heap.size ≤ q) b := Nat.not_le.mpr hbl
  have hin1 : vp_in (nI i + 1) L := by rw [show (1 : Int32) = nI 1 from rfl, nI_add]; exact vp_in_nI (by omega) (by omega)
  have hin2 : vp_in (nI i + 2) L := by rw [show (2 : Int32) = nI 2 from rfl, nI_add]; exact vp_in_nI (by omega) (by omega)
  have hin3 : vp_in (nI i + 3) L := by rw [show (3 : Int32) = nI 3 from rfl, nI_add]; exact vp_in_nI (by omega) (by omega)
  have hX1 := q_83 hR ((xs (nI i + 1).toNatClampNeg)) (fun _ _ ω2 => R ω2) (fun _ _ _ h => h)
  refine lv_aload_n hx hb dl_663 rfl (lv_at hl 1 rfl) ?_
  refine lv_aload_n hx hb dl_664 rfl (lv_at hl 0 rfl) ?_
  refine lv_iload_n hx hb dl_665 rfl (lv_at hl 3 rfl) ?_
  refine lv_iconst (v := 1) hx hb dl_666 (by decide) ?_
  refine lv_iadd hx hb dl_667 ?_
  refine va_sld hx hb hX hbl hbA hS hin1 dl_668 ?_
  refine lw_cv (z := 83) (k := 0) (j := 733) (as := [.int (xs (nI i + 1).toNatClampNeg)]) (rest := []) C hP hS dl_669 (by decide) (by decide +kernel) (by decide +kernel) (by decide +kernel) rfl (by decide +kernel) (Nat.le_of_ble_eq_true rfl) hl.1 rfl hX1 (fun r ω1 H1 locs1 hq hP1 hS1 => ?_)
  obtain ⟨v, rfl, hX2⟩ := hq
  have hS := hS1
  refine lv_pop (va := .int v) (rest := []) hx hb dl_672 rfl ?_
  refine lv_aload_n hx hb dl_673 rfl (lv_at hl 2 rfl) ?_
  refine lv_aload_n hx hb dl_674 rfl (lv_at hl 0 rfl) ?_
  refine lv_iload_n hx hb dl_675 rfl (lv_at hl 3 rfl) ?_
  refine lv_iconst (v := 1) hx hb dl_676 (by decide) ?_
  refine lv_iadd hx hb dl_677 ?_
  refine va_sld hx hb hX hbl hbA hS hin1 dl_678 ?_
  refine lw_cv (z := 168) (k := 29) (j := 1136) (as := [.int (xs (nI i + 1).toNatClampNeg)]) (rest := []) C hP1 hS1 dl_679 (by decide) (by decide +kernel) (by decide +kernel) (by decide +kernel) rfl (by decide +kernel) (Nat.le_of_ble_eq_true rfl) hl.1 rfl hX2 (fun r ω2 H2 locs2 hq hP2 hS2 => ?_)
  obtain ⟨u, rfl, hR2⟩ := hq
  refine lv_pop (va := .int u) (rest := []) hx hb dl_682 rfl ?_
  exact lv_goto (tgt := 837) hx hb dl_683 (by decide) (kk ω2 H2 locs2 hR2 hP2 hS2)
set_option maxRecDepth 100000 in
theorem law_20 {p : Program} {l : Launch} {e : Env} {s : State} {m : MethodId} {below : List Frame} {meth : Method} {c : Code} {b L : Nat} {xs : Nat → Int32} {G : va_G} {cI cJ : ClassId} {ad : Nat → Nat} {H : Heap} {locs : List Loc} {ls : Array Slot} {i : Nat} {ω : Om} (C : lw_C p s m meth c b L xs G cI cJ ad) (hi : i + 4 ≤ L) (hL : L ≤ 2048) (hR : R ω) (hP : va_P G vwCl (me_cc cI cJ ad ω) H) (hS : va_S (fun q => s.heap.size ≤ q) s.heap H locs) (hl : lv_has ls 4 [(0, .ref b), (1, .ref (ad 0)), (2, .ref (ad 29)), (3, .int (nI i))]) (kk : ∀ (ω2 : Om) (H2 : Heap) (locs2 : List Loc), R ω2 → va_P G vwCl (me_cc cI cJ ad ω2) H2 → va_S (fun q => s.heap.size ≤ q) s.heap H2 locs2 → W p l e room_1 s m #[Value.ref b] below meth c H2 locs2 46 5068 (lw_Z below #[Value.ref b] s) (F0 m 837 ls [])) : W p l e room_1 s m #[Value.ref b] below meth c H locs 46 5068 (lw_Z below #[Value.ref b] s) (F0 m 686 ls []) := by
  obtain ⟨⟨hx, hb, hr, hml, hown, hts, hX, hbl, hlocks, hgv⟩, hE, had⟩ := id C
  have hbA : ¬ (fun q : Nat => s.heap.size ≤ q) b := Nat.not_le.mpr hbl
  have hin1 : vp_in (nI i + 1) L := by rw [show (1 : Int32) = nI 1 from rfl, nI_add]; exact vp_in_nI (by omega) (by omega)
  have hin2 : vp_in (nI i + 2) L := by rw [show (2 : Int32) = nI 2 from rfl, nI_add]; exact vp_in_nI (by omega) (by omega)
  have hin3 : vp_in (nI i + 3) L := by rw [show (3 : Int32) = nI 3 from rfl, nI_add]; exact vp_in_nI (by omega) (by omega)
  have hX1 := q_84 hR ((xs (nI i + 1).toNatClampNeg)) (fun _ _ ω2 => R ω2) (fun _ _ _ h => h)
  refine lv_aload_n hx hb dl_686 rfl (lv_at hl 1 rfl) ?_
  refine lv_aload_n hx hb dl_687 rfl (lv_at hl 0 rfl) ?_
  refine lv_iload_n hx hb dl_688 rfl (lv_at hl 3 rfl) ?_
  refine lv_iconst (v := 1) hx hb dl_689 (by decide) ?_
  refine lv_iadd hx hb dl_690 ?_
  refine va_sld hx hb hX hbl hbA hS hin1 dl_691 ?_
  refine lw_cv (z := 84) (k := 0) (j := 746) (as := [.int (xs (nI i + 1).toNatClampNeg)]) (rest := []) C hP hS dl_692 (by decide) (by decide +kernel) (by decide +kernel) (by decide +kernel) rfl (by decide +kernel) (Nat.le_of_ble_eq_true rfl) hl.1 rfl hX1 (fun r ω1 H1 locs1 hq hP1 hS1 => ?_)
  obtain ⟨v, rfl, hX2⟩ := hq
  have hS := hS1
  refine lv_pop (va := .int v) (rest := []) hx hb dl_695 rfl ?_
  refine lv_aload_n hx hb dl_696 rfl (lv_at hl 2 rfl) ?_
  refine lv_aload_n hx hb dl_697 rfl (lv_at hl 0 rfl) ?_
  refine lv_iload_n hx hb dl_698 rfl (lv_at hl 3 rfl) ?_
  refine lv_iconst (v := 1) hx hb dl_699 (by decide) ?_
  refine lv_iadd hx hb dl_700 ?_
  refine va_sld hx hb hX hbl hbA hS hin1 dl_701 ?_
  refine lw_cv (z := 172) (k := 29) (j := 1145) (as := [.int (xs (nI i + 1).toNatClampNeg)]) (rest := []) C hP1 hS1 dl_702 (by decide) (by decide +kernel) (by decide +kernel) (by decide +kernel) rfl (by decide +kernel) (Nat.le_of_ble_eq_true rfl) hl.1 rfl hX2 (fun r ω2 H2 locs2 hq hP2 hS2 => ?_)
  obtain ⟨u, rfl, hR2⟩ := hq
  refine lv_pop (va := .int u) (rest := []) hx hb dl_705 rfl ?_
  exact lv_goto (tgt := 837) hx hb dl_706 (by decide) (kk ω2 H2 locs2 hR2 hP2 hS2)
set_option maxRecDepth 100000 in
theorem law_21 {p : Program} {l : Launch} {e : Env} {s : State} {m : MethodId} {below : List Frame} {meth : Method} {c : Code} {b L : Nat} {xs : Nat → Int32} {G : va_G} {cI cJ : ClassId} {ad : Nat → Nat} {H : Heap} {locs : List Loc} {ls : Array Slot} {i : Nat} {ω : Om} (C : lw_C p s m meth c b L xs G cI cJ ad) (hi : i + 4 ≤ L) (hL : L ≤ 2048) (hR : R ω) (hP : va_P G vwCl (me_cc cI cJ ad ω) H) (hS : va_S (fun q => s.heap.size ≤ q) s.heap H locs) (hl : lv_has ls 4 [(0, .ref b), (1, .ref (ad 0)), (2, .ref (ad 29)), (3, .int (nI i))]) (kk : ∀ (ω2 : Om) (H2 : Heap) (locs2 : List Loc), R ω2 → va_P G vwCl (me_cc cI cJ ad ω2) H2 → va_S (fun q => s.heap.size ≤ q) s.heap H2 locs2 → W p l e room_1 s m #[Value.ref b] below meth c H2 locs2 46 5068 (lw_Z below #[Value.ref b] s) (F0 m 837 ls [])) : W p l e room_1 s m #[Value.ref b] below meth c H locs 46 5068 (lw_Z below #[Value.ref b] s) (F0 m 709 ls []) := by
  obtain ⟨⟨hx, hb, hr, hml, hown, hts, hX, hbl, hlocks, hgv⟩, hE, had⟩ := id C
  have hbA : ¬ (fun q : Nat => s.heap.size ≤ q) b := Nat.not_le.mpr hbl
  have hin1 : vp_in (nI i + 1) L := by rw [show (1 : Int32) = nI 1 from rfl, nI_add]; exact vp_in_nI (by omega) (by omega)
  have hin2 : vp_in (nI i + 2) L := by rw [show (2 : Int32) = nI 2 from rfl, nI_add]; exact vp_in_nI (by omega) (by omega)
  have hin3 : vp_in (nI i + 3) L := by rw [show (3 : Int32) = nI 3 from rfl, nI_add]; exact vp_in_nI (by omega) (by omega)
  have hX1 := q_85 hR ((xs (nI i + 1).toNatClampNeg)) ((xs (nI i + 2).toNatClampNeg)) (fun _ _ ω2 => R ω2) (fun _ _ _ h => h)
  refine lv_aload_n hx hb dl_709 rfl (lv_at hl 1 rfl) ?_
  refine lv_aload_n hx hb dl_710 rfl (lv_at hl 0 rfl) ?_
  refine lv_iload_n hx hb dl_711 rfl (lv_at hl 3 rfl) ?_
  refine lv_iconst (v := 1) hx hb dl_712 (by decide) ?_
  refine lv_iadd hx hb dl_713 ?_
  refine va_sld hx hb hX hbl hbA hS hin1 dl_714 ?_
  refine lv_aload_n hx hb dl_715 rfl (lv_at hl 0 rfl) ?_
  refine lv_iload_n hx hb dl_716 rfl (lv_at hl 3 rfl) ?_
  refine lv_iconst (v := 2) hx hb dl_717 (by decide) ?_
  refine lv_iadd hx hb dl_718 ?_
  refine va_sld hx hb hX hbl hbA hS hin2 dl_719 ?_
  refine lw_cv (z := 85) (k := 0) (j := 763) (as := [.int (xs (nI i + 1).toNatClampNeg), .int (xs (nI i + 2).toNatClampNeg)]) (rest := []) C hP hS dl_720 (by decide) (by decide +kernel) (by decide +kernel) (by decide +kernel) rfl (by decide +kernel) (Nat.le_of_ble_eq_true rfl) hl.1 rfl hX1 (fun r ω1 H1 locs1 hq hP1 hS1 => ?_)
  obtain ⟨v, rfl, hX2⟩ := hq
  have hS := hS1
  refine lv_pop (va := .int v) (rest := []) hx hb dl_723 rfl ?_
  refine lv_aload_n hx hb dl_724 rfl (lv_at hl 2 rfl) ?_
  refine lv_aload_n hx hb dl_725 rfl (lv_at hl 0 rfl) ?_
  refine lv_iload_n hx hb dl_726 rfl (lv_at hl 3 rfl) ?_
  refine lv_iconst (v := 1) hx hb dl_727 (by decide) ?_
  refine lv_iadd hx hb dl_728 ?_
  refine va_sld hx hb hX hbl hbA hS hin1 dl_729 ?_
  refine lv_aload_n hx hb dl_730 rfl (lv_at hl 0 rfl) ?_
  refine lv_iload_n hx hb dl_731 rfl (lv_at hl 3 rfl) ?_
  refine lv_iconst (v := 2) hx hb dl_732 (by decide) ?_
  refine lv_iadd hx hb dl_733 ?_
  refine va_sld hx hb hX hbl hbA hS hin2 dl_734 ?_
  refine lw_cv (z := 173) (k := 29) (j := 1161) (as := [.int (xs (nI i + 1).toNatClampNeg), .int (xs (nI i + 2).toNatClampNeg)]) (rest := []) C hP1 hS1 dl_735 (by decide) (by decide +kernel) (by decide +kernel) (by decide +kernel) rfl (by decide +kernel) (Nat.le_of_ble_eq_true rfl) hl.1 rfl hX2 (fun r ω2 H2 locs2 hq hP2 hS2 => ?_)
  obtain ⟨u, rfl, hR2⟩ := hq
  refine lv_pop (va := .int u) (rest := []) hx hb dl_738 rfl ?_
  exact lv_goto (tgt := 837) hx hb dl_739 (by decide) (kk ω2 H2 locs2 hR2 hP2 hS2)
set_option maxRecDepth 100000 in
theorem law_22 {p : Program} {l : Launch} {e : Env} {s : State} {m : MethodId} {below : List Frame} {meth : Method} {c : Code} {b L : Nat} {xs : Nat → Int32} {G : va_G} {cI cJ : ClassId} {ad : Nat → Nat} {H : Heap} {locs : List Loc} {ls : Array Slot} {i : Nat} {ω : Om} (C : lw_C p s m meth c b L xs G cI cJ ad) (hi : i + 4 ≤ L) (hL : L ≤ 2048) (hR : R ω) (hP : va_P G vwCl (me_cc cI cJ ad ω) H) (hS : va_S (fun q => s.heap.size ≤ q) s.heap H locs) (hl : lv_has ls 4 [(0, .ref b), (1, .ref (ad 0)), (2, .ref (ad 29)), (3, .int (nI i))]) (kk : ∀ (ω2 : Om) (H2 : Heap) (locs2 : List Loc), R ω2 → va_P G vwCl (me_cc cI cJ ad ω2) H2 → va_S (fun q => s.heap.size ≤ q) s.heap H2 locs2 → W p l e room_1 s m #[Value.ref b] below meth c H2 locs2 46 5068 (lw_Z below #[Value.ref b] s) (F0 m 837 ls [])) : W p l e room_1 s m #[Value.ref b] below meth c H locs 46 5068 (lw_Z below #[Value.ref b] s) (F0 m 742 ls []) := by
  obtain ⟨⟨hx, hb, hr, hml, hown, hts, hX, hbl, hlocks, hgv⟩, hE, had⟩ := id C
  have hbA : ¬ (fun q : Nat => s.heap.size ≤ q) b := Nat.not_le.mpr hbl
  have hin1 : vp_in (nI i + 1) L := by rw [show (1 : Int32) = nI 1 from rfl, nI_add]; exact vp_in_nI (by omega) (by omega)
  have hin2 : vp_in (nI i + 2) L := by rw [show (2 : Int32) = nI 2 from rfl, nI_add]; exact vp_in_nI (by omega) (by omega)
  have hin3 : vp_in (nI i + 3) L := by rw [show (3 : Int32) = nI 3 from rfl, nI_add]; exact vp_in_nI (by omega) (by omega)
  have hX1 := q_86 hR ((xs (nI i + 1).toNatClampNeg)) ((xs (nI i + 2).toNatClampNeg)) (fun _ _ ω2 => R ω2) (fun _ _ _ h => h)
  refine lv_aload_n hx hb dl_742 rfl (lv_at hl 1 rfl) ?_
  refine lv_aload_n hx hb dl_743 rfl (lv_at hl 0 rfl) ?_
  refine lv_iload_n hx hb dl_744 rfl (lv_at hl 3 rfl) ?_
  refine lv_iconst (v := 1) hx hb dl_745 (by decide) ?_
  refine lv_iadd hx hb dl_746 ?_
  refine va_sld hx hb hX hbl hbA hS hin1 dl_747 ?_
  refine lv_aload_n hx hb dl_748 rfl (lv_at hl 0 rfl) ?_
  refine lv_iload_n hx hb dl_749 rfl (lv_at hl 3 rfl) ?_
  refine lv_iconst (v := 2) hx hb dl_750 (by decide) ?_
  refine lv_iadd hx hb dl_751 ?_
  refine va_sld hx hb hX hbl hbA hS hin2 dl_752 ?_
  refine lw_cv (z := 86) (k := 0) (j := 767) (as := [.int (xs (nI i + 1).toNatClampNeg), .int (xs (nI i + 2).toNatClampNeg)]) (rest := []) C hP hS dl_753 (by decide) (by decide +kernel) (by decide +kernel) (by decide +kernel) rfl (by decide +kernel) (Nat.le_of_ble_eq_true rfl) hl.1 rfl hX1 (fun r ω1 H1 locs1 hq hP1 hS1 => ?_)
  obtain ⟨v, rfl, hX2⟩ := hq
  have hS := hS1
  refine lv_pop (va := .int v) (rest := []) hx hb dl_756 rfl ?_
  refine lv_aload_n hx hb dl_757 rfl (lv_at hl 2 rfl) ?_
  refine lv_aload_n hx hb dl_758 rfl (lv_at hl 0 rfl) ?_
  refine lv_iload_n hx hb dl_759 rfl (lv_at hl 3 rfl) ?_
  refine lv_iconst (v := 1) hx hb dl_760 (by decide) ?_
  refine lv_iadd hx hb dl_761 ?_
  refine va_sld hx hb hX hbl hbA hS hin1 dl_762 ?_
  refine lv_aload_n hx hb dl_763 rfl (lv_at hl 0 rfl) ?_
  refine lv_iload_n hx hb dl_764 rfl (lv_at hl 3 rfl) ?_
  refine lv_iconst (v := 2) hx hb dl_765 (by decide) ?_
  refine lv_iadd hx hb dl_766 ?_
  refine va_sld hx hb hX hbl hbA hS hin2 dl_767 ?_
  refine lw_cv (z := 176) (k := 29) (j := 1165) (as := [.int (xs (nI i + 1).toNatClampNeg), .int (xs (nI i + 2).toNatClampNeg)]) (rest := []) C hP1 hS1 dl_768 (by decide) (by decide +kernel) (by decide +kernel) (by decide +kernel) rfl (by decide +kernel) (Nat.le_of_ble_eq_true rfl) hl.1 rfl hX2 (fun r ω2 H2 locs2 hq hP2 hS2 => ?_)
  obtain ⟨u, rfl, hR2⟩ := hq
  refine lv_pop (va := .int u) (rest := []) hx hb dl_771 rfl ?_
  exact lv_goto (tgt := 837) hx hb dl_772 (by decide) (kk ω2 H2 locs2 hR2 hP2 hS2)
set_option maxRecDepth 100000 in
theorem law_23 {p : Program} {l : Launch} {e : Env} {s : State} {m : MethodId} {below : List Frame} {meth : Method} {c : Code} {b L : Nat} {xs : Nat → Int32} {G : va_G} {cI cJ : ClassId} {ad : Nat → Nat} {H : Heap} {locs : List Loc} {ls : Array Slot} {i : Nat} {ω : Om} (C : lw_C p s m meth c b L xs G cI cJ ad) (hi : i + 4 ≤ L) (hL : L ≤ 2048) (hR : R ω) (hP : va_P G vwCl (me_cc cI cJ ad ω) H) (hS : va_S (fun q => s.heap.size ≤ q) s.heap H locs) (hl : lv_has ls 4 [(0, .ref b), (1, .ref (ad 0)), (2, .ref (ad 29)), (3, .int (nI i))]) (kk : ∀ (ω2 : Om) (H2 : Heap) (locs2 : List Loc), R ω2 → va_P G vwCl (me_cc cI cJ ad ω2) H2 → va_S (fun q => s.heap.size ≤ q) s.heap H2 locs2 → W p l e room_1 s m #[Value.ref b] below meth c H2 locs2 46 5068 (lw_Z below #[Value.ref b] s) (F0 m 837 ls [])) : W p l e room_1 s m #[Value.ref b] below meth c H locs 46 5068 (lw_Z below #[Value.ref b] s) (F0 m 775 ls []) := by
  obtain ⟨⟨hx, hb, hr, hml, hown, hts, hX, hbl, hlocks, hgv⟩, hE, had⟩ := id C
  have hbA : ¬ (fun q : Nat => s.heap.size ≤ q) b := Nat.not_le.mpr hbl
  have hin1 : vp_in (nI i + 1) L := by rw [show (1 : Int32) = nI 1 from rfl, nI_add]; exact vp_in_nI (by omega) (by omega)
  have hin2 : vp_in (nI i + 2) L := by rw [show (2 : Int32) = nI 2 from rfl, nI_add]; exact vp_in_nI (by omega) (by omega)
  have hin3 : vp_in (nI i + 3) L := by rw [show (3 : Int32) = nI 3 from rfl, nI_add]; exact vp_in_nI (by omega) (by omega)
  have hX1 := Pr.q (q_87 hR ) (fun _ _ ω2 => R ω2) (fun _ _ _ h => h)
  refine lv_aload_n hx hb dl_775 rfl (lv_at hl 1 rfl) ?_
  refine lw_cv (z := 87) (k := 0) (j := 787) (as := []) (rest := []) C hP hS dl_776 (by decide) (by decide +kernel) (by decide +kernel) (by decide +kernel) rfl (by decide +kernel) (Nat.le_of_ble_eq_true rfl) hl.1 rfl hX1 (fun r ω1 H1 locs1 hq hP1 hS1 => ?_)
  obtain ⟨v, rfl, hX2⟩ := hq
  have hS := hS1
  refine lv_pop (va := .int v) (rest := []) hx hb dl_779 rfl ?_
  refine lv_aload_n hx hb dl_780 rfl (lv_at hl 2 rfl) ?_
  refine lw_cv (z := 177) (k := 29) (j := 1182) (as := []) (rest := []) C hP1 hS1 dl_781 (by decide) (by decide +kernel) (by decide +kernel) (by decide +kernel) rfl (by decide +kernel) (Nat.le_of_ble_eq_true rfl) hl.1 rfl hX2 (fun r ω2 H2 locs2 hq hP2 hS2 => ?_)
  obtain ⟨u, rfl, hR2⟩ := hq
  refine lv_pop (va := .int u) (rest := []) hx hb dl_784 rfl ?_
  exact lv_goto (tgt := 837) hx hb dl_785 (by decide) (kk ω2 H2 locs2 hR2 hP2 hS2)
set_option maxRecDepth 100000 in
theorem law_24 {p : Program} {l : Launch} {e : Env} {s : State} {m : MethodId} {below : List Frame} {meth : Method} {c : Code} {b L : Nat} {xs : Nat → Int32} {G : va_G} {cI cJ : ClassId} {ad : Nat → Nat} {H : Heap} {locs : List Loc} {ls : Array Slot} {i : Nat} {ω : Om} (C : lw_C p s m meth c b L xs G cI cJ ad) (hi : i + 4 ≤ L) (hL : L ≤ 2048) (hR : R ω) (hP : va_P G vwCl (me_cc cI cJ ad ω) H) (hS : va_S (fun q => s.heap.size ≤ q) s.heap H locs) (hl : lv_has ls 4 [(0, .ref b), (1, .ref (ad 0)), (2, .ref (ad 29)), (3, .int (nI i))]) (kk : ∀ (ω2 : Om) (H2 : Heap) (locs2 : List Loc), R ω2 → va_P G vwCl (me_cc cI cJ ad ω2) H2 → va_S (fun q => s.heap.size ≤ q) s.heap H2 locs2 → W p l e room_1 s m #[Value.ref b] below meth c H2 locs2 46 5068 (lw_Z below #[Value.ref b] s) (F0 m 837 ls [])) : W p l e room_1 s m #[Value.ref b] below meth c H locs 46 5068 (lw_Z below #[Value.ref b] s) (F0 m 788 ls []) := by
  obtain ⟨⟨hx, hb, hr, hml, hown, hts, hX, hbl, hlocks, hgv⟩, hE, had⟩ := id C
  have hbA : ¬ (fun q : Nat => s.heap.size ≤ q) b := Nat.not_le.mpr hbl
  have hin1 : vp_in (nI i + 1) L := by rw [show (1 : Int32) = nI 1 from rfl, nI_add]; exact vp_in_nI (by omega) (by omega)
  have hin2 : vp_in (nI i + 2) L := by rw [show (2 : Int32) = nI 2 from rfl, nI_add]; exact vp_in_nI (by omega) (by omega)
  have hin3 : vp_in (nI i + 3) L := by rw [show (3 : Int32) = nI 3 from rfl, nI_add]; exact vp_in_nI (by omega) (by omega)
  have hX1 := q_88 hR  (fun v u ω2 => v = u ∧ R ω2) (fun v ω' h => ⟨rfl, h⟩)
  refine lv_aload_n hx hb dl_788 rfl (lv_at hl 1 rfl) ?_
  refine lw_cv (z := 88) (k := 0) (j := 796) (as := []) (rest := []) C hP hS dl_789 (by decide) (by decide +kernel) (by decide +kernel) (by decide +kernel) rfl (by decide +kernel) (Nat.le_of_ble_eq_true rfl) hl.1 rfl hX1 (fun r ω1 H1 locs1 hq hP1 hS1 => ?_)
  obtain ⟨v, rfl, hX2⟩ := hq
  have hS := hS1
  refine lv_aload_n hx hb dl_792 rfl (lv_at hl 2 rfl) ?_
  refine lw_cv (z := 178) (k := 29) (j := 1186) (as := []) (rest := [.int v]) C hP1 hS1 dl_793 (by decide) (by decide +kernel) (by decide +kernel) (by decide +kernel) rfl (by decide +kernel) (Nat.le_of_ble_eq_true rfl) hl.1 rfl hX2 (fun r ω2 H2 locs2 hq hP2 hS2 => ?_)
  obtain ⟨u, rfl, huv, hR2⟩ := hq
  subst huv
  exact lv_icmp_eq (tgt := 837) hx hb dl_796 (by decide) (fun _ => kk ω2 H2 locs2 hR2 hP2 hS2) (fun cc => absurd rfl cc)
set_option maxRecDepth 100000 in
theorem law_25 {p : Program} {l : Launch} {e : Env} {s : State} {m : MethodId} {below : List Frame} {meth : Method} {c : Code} {b L : Nat} {xs : Nat → Int32} {G : va_G} {cI cJ : ClassId} {ad : Nat → Nat} {H : Heap} {locs : List Loc} {ls : Array Slot} {i : Nat} {ω : Om} (C : lw_C p s m meth c b L xs G cI cJ ad) (hi : i + 4 ≤ L) (hL : L ≤ 2048) (hR : R ω) (hP : va_P G vwCl (me_cc cI cJ ad ω) H) (hS : va_S (fun q => s.heap.size ≤ q) s.heap H locs) (hl : lv_has ls 4 [(0, .ref b), (1, .ref (ad 0)), (2, .ref (ad 29)), (3, .int (nI i))]) (kk : ∀ (ω2 : Om) (H2 : Heap) (locs2 : List Loc), R ω2 → va_P G vwCl (me_cc cI cJ ad ω2) H2 → va_S (fun q => s.heap.size ≤ q) s.heap H2 locs2 → W p l e room_1 s m #[Value.ref b] below meth c H2 locs2 46 5068 (lw_Z below #[Value.ref b] s) (F0 m 837 ls [])) : W p l e room_1 s m #[Value.ref b] below meth c H locs 46 5068 (lw_Z below #[Value.ref b] s) (F0 m 801 ls []) := by
  obtain ⟨⟨hx, hb, hr, hml, hown, hts, hX, hbl, hlocks, hgv⟩, hE, had⟩ := id C
  have hbA : ¬ (fun q : Nat => s.heap.size ≤ q) b := Nat.not_le.mpr hbl
  have hin1 : vp_in (nI i + 1) L := by rw [show (1 : Int32) = nI 1 from rfl, nI_add]; exact vp_in_nI (by omega) (by omega)
  have hin2 : vp_in (nI i + 2) L := by rw [show (2 : Int32) = nI 2 from rfl, nI_add]; exact vp_in_nI (by omega) (by omega)
  have hin3 : vp_in (nI i + 3) L := by rw [show (3 : Int32) = nI 3 from rfl, nI_add]; exact vp_in_nI (by omega) (by omega)
  have hX1 := Pr.q (q_89 hR ((xs (nI i + 1).toNatClampNeg))) (fun _ _ ω2 => R ω2) (fun _ _ _ h => h)
  refine lv_aload_n hx hb dl_801 rfl (lv_at hl 1 rfl) ?_
  refine lv_aload_n hx hb dl_802 rfl (lv_at hl 0 rfl) ?_
  refine lv_iload_n hx hb dl_803 rfl (lv_at hl 3 rfl) ?_
  refine lv_iconst (v := 1) hx hb dl_804 (by decide) ?_
  refine lv_iadd hx hb dl_805 ?_
  refine va_sld hx hb hX hbl hbA hS hin1 dl_806 ?_
  refine lw_cv (z := 89) (k := 0) (j := 804) (as := [.int (xs (nI i + 1).toNatClampNeg)]) (rest := []) C hP hS dl_807 (by decide) (by decide +kernel) (by decide +kernel) (by decide +kernel) rfl (by decide +kernel) (Nat.le_of_ble_eq_true rfl) hl.1 rfl hX1 (fun r ω1 H1 locs1 hq hP1 hS1 => ?_)
  obtain ⟨v, rfl, hX2⟩ := hq
  have hS := hS1
  refine lv_pop (va := .int v) (rest := []) hx hb dl_810 rfl ?_
  refine lv_aload_n hx hb dl_811 rfl (lv_at hl 2 rfl) ?_
  refine lv_aload_n hx hb dl_812 rfl (lv_at hl 0 rfl) ?_
  refine lv_iload_n hx hb dl_813 rfl (lv_at hl 3 rfl) ?_
  refine lv_iconst (v := 1) hx hb dl_814 (by decide) ?_
  refine lv_iadd hx hb dl_815 ?_
  refine va_sld hx hb hX hbl hbA hS hin1 dl_816 ?_
  refine lw_cv (z := 180) (k := 29) (j := 1190) (as := [.int (xs (nI i + 1).toNatClampNeg)]) (rest := []) C hP1 hS1 dl_817 (by decide) (by decide +kernel) (by decide +kernel) (by decide +kernel) rfl (by decide +kernel) (Nat.le_of_ble_eq_true rfl) hl.1 rfl hX2 (fun r ω2 H2 locs2 hq hP2 hS2 => ?_)
  obtain ⟨u, rfl, hR2⟩ := hq
  refine lv_pop (va := .int u) (rest := []) hx hb dl_820 rfl ?_
  exact lv_goto (tgt := 837) hx hb dl_821 (by decide) (kk ω2 H2 locs2 hR2 hP2 hS2)
set_option maxRecDepth 100000 in
theorem law_26 {p : Program} {l : Launch} {e : Env} {s : State} {m : MethodId} {below : List Frame} {meth : Method} {c : Code} {b L : Nat} {xs : Nat → Int32} {G : va_G} {cI cJ : ClassId} {ad : Nat → Nat} {H : Heap} {locs : List Loc} {ls : Array Slot} {i : Nat} {ω : Om} (C : lw_C p s m meth c b L xs G cI cJ ad) (hi : i + 4 ≤ L) (hL : L ≤ 2048) (hR : R ω) (hP : va_P G vwCl (me_cc cI cJ ad ω) H) (hS : va_S (fun q => s.heap.size ≤ q) s.heap H locs) (hl : lv_has ls 4 [(0, .ref b), (1, .ref (ad 0)), (2, .ref (ad 29)), (3, .int (nI i))]) (kk : ∀ (ω2 : Om) (H2 : Heap) (locs2 : List Loc), R ω2 → va_P G vwCl (me_cc cI cJ ad ω2) H2 → va_S (fun q => s.heap.size ≤ q) s.heap H2 locs2 → W p l e room_1 s m #[Value.ref b] below meth c H2 locs2 46 5068 (lw_Z below #[Value.ref b] s) (F0 m 837 ls [])) : W p l e room_1 s m #[Value.ref b] below meth c H locs 46 5068 (lw_Z below #[Value.ref b] s) (F0 m 824 ls []) := by
  obtain ⟨⟨hx, hb, hr, hml, hown, hts, hX, hbl, hlocks, hgv⟩, hE, had⟩ := id C
  have hbA : ¬ (fun q : Nat => s.heap.size ≤ q) b := Nat.not_le.mpr hbl
  have hin1 : vp_in (nI i + 1) L := by rw [show (1 : Int32) = nI 1 from rfl, nI_add]; exact vp_in_nI (by omega) (by omega)
  have hin2 : vp_in (nI i + 2) L := by rw [show (2 : Int32) = nI 2 from rfl, nI_add]; exact vp_in_nI (by omega) (by omega)
  have hin3 : vp_in (nI i + 3) L := by rw [show (3 : Int32) = nI 3 from rfl, nI_add]; exact vp_in_nI (by omega) (by omega)
  have hX1 := q_90 hR  (fun _ _ ω2 => R ω2) (fun _ _ _ h => h)
  refine lv_aload_n hx hb dl_824 rfl (lv_at hl 1 rfl) ?_
  refine lw_cv (z := 90) (k := 0) (j := 808) (as := []) (rest := []) C hP hS dl_825 (by decide) (by decide +kernel) (by decide +kernel) (by decide +kernel) rfl (by decide +kernel) (Nat.le_of_ble_eq_true rfl) hl.1 rfl hX1 (fun r ω1 H1 locs1 hq hP1 hS1 => ?_)
  obtain ⟨v, rfl, hX2⟩ := hq
  have hS := hS1
  refine lv_pop2_2 (va := .long v) (rest := []) hx hb dl_828 rfl ?_
  refine lv_aload_n hx hb dl_829 rfl (lv_at hl 2 rfl) ?_
  refine lw_cv (z := 183) (k := 29) (j := 1198) (as := []) (rest := []) C hP1 hS1 dl_830 (by decide) (by decide +kernel) (by decide +kernel) (by decide +kernel) rfl (by decide +kernel) (Nat.le_of_ble_eq_true rfl) hl.1 rfl hX2 (fun r ω2 H2 locs2 hq hP2 hS2 => ?_)
  obtain ⟨u, rfl, hR2⟩ := hq
  refine lv_pop2_2 (va := .long u) (rest := []) hx hb dl_833 rfl ?_
  exact lv_goto (tgt := 837) hx hb dl_834 (by decide) (kk ω2 H2 locs2 hR2 hP2 hS2)
