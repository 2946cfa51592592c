/-! .. and it is sound -/
theorem me_lv_entry {n : Nat} {ad : Nat → Nat} {as : List Value} (hl : (me_ex as).length ≤ n) : me_lv ((lg_sl (as.map (me_rn ad)) ++ List.replicate (n - (lg_sl (as.map (me_rn ad))).length) Slot.unset).toArray) n ad (me_en n as) := by
  have hll := lv_entry (as.map (me_rn ad)) (n := n) (by rw [me_ex_len]; exact hl)
  refine ⟨hll.1, hll.2.1, fun q hq => ?_⟩
  obtain ⟨⟨i, v⟩, h1, rfl⟩ := List.mem_map.mp hq
  rw [me_ll_mem] at h1
  obtain ⟨k, e1, h2⟩ := h1
  obtain rfl : i = k := by omega
  refine hll.2.2 (i, me_rn ad v) ?_
  have h3 : (me_ex as)[i]? = some (some v) := by
    unfold me_en at h2
    by_cases hi : i < (me_ex as).length
    · rwa [List.getElem?_append_left hi] at h2
    · rw [List.getElem?_append_right (by omega), List.getElem?_replicate] at h2
      split at h2 <;> cases h2
  have := me_ex_args ad as 0 i v h3
  rwa [Nat.zero_add] at this
def al_At (y : Nat) (p : Program) (s : State) (m : MethodId) (args : Array Value) (meth : Method) (c : Code) (G : va_G) (cI cJ : ClassId) : Prop :=
  p.tables.exec = Jvm.exec ∧ c.code = me_mb y ∧ meth.sig.returnType = me_mr y ∧ c.maxLocals = me_mL y ∧ s.vm.findClass (me_mn y).cls = some m.cls ∧ (∀ w ∈ me_ws y, w.before args s = true) ∧ meth.locks = false ∧ al_En G cI cJ s ∧ meth.name = (me_mn y).name
def al_W (y tl ts pc : Nat) (L : List (Option Value)) (st : List Value) (ws ws' : List al_C) : Prop :=
  ∀ (p : Program) (l : Launch) (e : Env) (s : State) (m : MethodId) (args : Array Value) (below : List Frame) (meth : Method) (c : Code) (G : va_G) (cI cJ : ClassId) (base : Nat) (H : Heap) (locs : List Loc) (ls : Array Slot) (len0 sz0 : Nat),
    al_At y p s m args meth c G cI cJ → H.size = base + ws.length → va_P G vwCl (al_cc cI cJ base ws) H → va_S (fun q => base ≤ q) s.heap H locs → s.heap.size = base + len0 → me_lv ls (me_mL y) (fun i => base + i) L → len0 ≤ ws.length → sz0 ≤ al_sz ws → tl = len0 + (al_m y).1 → ts = sz0 + (al_m y).2 →
    W p l e (al_rm y) s m args below meth c H locs (ws.length - len0) (al_sz ws - sz0) (MQ below (al_Post G cI cJ base ws') args s (al_m y).1 (al_m y).2 (fun q => base ≤ q)) (F0 m pc ls (st.map (me_rn (fun i => base + i))))
theorem al_entry {y k : Nat} {ws ws' : List al_C} (hy : y < 185) (hL : 1 ≤ me_mL y) (h : al_W y (ws.length + (al_m y).1) (al_sz ws + (al_m y).2) 0 (me_en (me_mL y) [.ref k]) [] ws ws') : al_Ct y k ws ws' := by
  intro l G cI cJ base
  obtain ⟨g1, g2, g3, g4, g5, g6⟩ := me_cm_in (me_cms y hy)
  refine Met.ofW (cc := me_mb y) (maxL := me_mL y) (ret := me_mr y) g3 rfl ?_
  intro p e s m args below meth c s₁ B hml hv
  obtain ⟨rfl, hsz, hP, hE⟩ := hv
  have hts := atoms_spec (ws := me_ws y) B.pre
  have hown : s.vm.findClass (me_mn y).cls = some m.cls := findClass_of_methodNamed B.named
  have hl := me_lv_entry (n := me_mL y) (ad := fun i => base + i) (as := [.ref k]) hL
  have := h p l e s m #[Value.ref (base + k)] below meth c G cI cJ base s.heap [] _ ws.length (al_sz ws) ⟨B.exec, B.bytes, B.returns, hml, hown, hts, B.notSynchronized, hE, (name_of_methodNamed B.named B.method).1⟩ hsz hP va_S.rf hsz hl (Nat.le_refl _) (Nat.le_refl _) rfl rfl
  rw [Nat.sub_self, Nat.sub_self] at this
  have e0 := lg_entry_eq m [Value.ref (base + k)] (me_mL y)
  rw [show (#[Value.ref (base + k)] : Array Value) = ([Value.ref (base + k)] : List Value).toArray from rfl, e0]
  exact this
theorem al_blind (G : va_G) (cI cJ : ClassId) (base k : Nat) (ws : List al_C) : FrameBlind (al_Pre G cI cJ base k ws) := by
  intro a U g mk ⟨h1, h2, h3, h4⟩
  exact ⟨h1, h2, h3, va_K.moved (u := U) (U := U.calling g mk a) (Vm.Alike.refl U.vm) h4.1, me_Nw.same (s := U) rfl h4.2⟩
theorem al_call {p : Program} {l : Launch} {e : Env} {s : State} {m : MethodId} {args : Array Value} {below : List Frame} {meth : Method} {c : Code} {G : va_G} {cI cJ : ClassId} {base : Nat} {H : Heap} {locs : List Loc} {ls : Array Slot} {st0 rest : List Value} {a : Array Value} {Qf : State → Prop} {R : Room} {pc ce sl mc ms : Nat} {ws1 : List al_C}
    (hr : va_Run p l e R s m args below meth c H locs ce sl mc ms (F0 m pc ls st0) rest (al_Post G cI cJ base ws1 a) (fun q => base ≤ q)) (hS : va_S (fun q => base ≤ q) s.heap H locs)
    (kk : ∀ (H1 : Heap) (locs1 : List Loc), H1.size = base + ws1.length → va_P G vwCl (al_cc cI cJ base ws1) H1 → va_S (fun q => base ≤ q) s.heap H1 locs1 → W p l e R s m args below meth c H1 locs1 (ce + mc) (sl + ms) Qf (F0 m (pc + 3) ls rest)) : W p l e R s m args below meth c H locs ce sl Qf (F0 m pc ls st0) := by
  intro T hT X
  obtain ⟨v, st₀, t, T', L, h0, X', hL, e1, e2, ⟨⟨hv, hz1, hp⟩, hz, hk⟩, stp⟩ := hr T hT X
  cases hv
  rw [h0] at hz hk
  obtain ⟨t2, a1, b1⟩ := kk T'.heap (locs ++ L) (by rw [e1]; exact hz1) (by rw [e1]; exact hp)
    ⟨Nat.le_trans hS.1 (by rw [e1]; exact hz), fun q h1 h2 => by rw [e1, hk q (Nat.lt_of_lt_of_le h1 hS.1) h2]; exact hS.2.1 q h1 h2, fun q hq => by
      rcases List.mem_append.mp hq with h | h
      · exact hS.2.2 q h
      · exact hL q h⟩ T' rfl X'
  exact ⟨t2, stp t2 a1, b1⟩
theorem al_def (a : Nat) (C : String) (T : u_T) (N : Nat) (h : vwCl[a]? = some (C, T, N)) : (∃ ty : Nat → FieldType, (∀ k, k < N → parseFieldDescriptor (T k).2.2.1 = some (ty k)) ∧ ∀ j, j < N → defaultValue (ty j) = vp_V (al_df a) j) ∧ (al_df a).length = N ∧ ∀ ad, (al_df a).map (me_rn ad) = al_df a := by
  match a, h with
  | 0, h => cases h; exact ⟨⟨tyX0, tyX0_ok, by decide⟩, rfl, fun _ => rfl⟩
  | 1, h => cases h; exact ⟨⟨tyX1, tyX1_ok, by decide⟩, rfl, fun _ => rfl⟩
  | 2, h => cases h; exact ⟨⟨tyX2, tyX2_ok, by decide⟩, rfl, fun _ => rfl⟩
  | 3, h => cases h; exact ⟨⟨tyX3, tyX3_ok, by decide⟩, rfl, fun _ => rfl⟩
  | 4, h => cases h; exact ⟨⟨tyX4, tyX4_ok, by decide⟩, rfl, fun _ => rfl⟩
  | 5, h => cases h; exact ⟨⟨tyX5, tyX5_ok, by decide⟩, rfl, fun _ => rfl⟩
  | 6, h => cases h; exact ⟨⟨tyX6, tyX6_ok, by decide⟩, rfl, fun _ => rfl⟩
  | 7, h => cases h; exact ⟨⟨tyX8, tyX8_ok, by decide⟩, rfl, fun _ => rfl⟩
  | 8, h => cases h; exact ⟨⟨tyX9, tyX9_ok, by decide⟩, rfl, fun _ => rfl⟩
  | 9, h => cases h; exact ⟨⟨tyX10, tyX10_ok, by decide⟩, rfl, fun _ => rfl⟩
  | 10, h => cases h; exact ⟨⟨tyX11, tyX11_ok, by decide⟩, rfl, fun _ => rfl⟩
  | 11, h => cases h; exact ⟨⟨tyX12, tyX12_ok, by decide +kernel⟩, rfl, fun _ => rfl⟩
  | n + 12, h => simp at h
theorem al_szd {p : Program} {l : Launch} {e : Env} {s : State} {m : MethodId} {args : Array Value} {below : List Frame} {meth : Method} {c : Code} {G : va_G} {cI cJ : ClassId} {base : Nat} {H : Heap} {locs : List Loc} {g : JFrame} {Qf : State → Prop} {R : Room} {sl len0 : Nat} {ws : List al_C} (hP : va_P G vwCl (al_cc cI cJ base ws) H) (h0 : 0 < ws.length) (hs : s.heap.size = base + len0) (h1 : len0 ≤ ws.length)
    (kk : H.size = base + ws.length → W p l e R s m args below meth c H locs (ws.length - len0) sl Qf g) : W p l e R s m args below meth c H locs (ws.length - len0) sl Qf g := by
  intro T hT X
  refine kk ?_ T hT X
  have hup : (T.setVm s.vm).heap.size ≤ s.heap.size + (ws.length - len0) := X.same.2.2.1
  have hup : T.heap.size ≤ s.heap.size + (ws.length - len0) := hup
  rw [hT] at hup
  have hg : ws[ws.length - 1]? = some (ws[ws.length - 1]'(by omega)) := List.getElem?_eq_getElem (by omega)
  have hlo := (hP _ _ (al_at (cI := cI) (cJ := cJ) (base := base) hg)).lt
  have hlo : base + (ws.length - 1) < H.size := hlo
  omega
