/-! THE CLAIM OUT OF ONE WALK OF THE LAW'S BODY. Your part is whole_start (and what it stands on); all else here is the same for every law, but numbers. -/
def R_law : String := "WokenOnceLaw"
def lw_P (b : Addr) (xs : List Int32) (args : Array Value) (s : State) : Prop := args = #[.ref b] ∧ s.IntsAt b xs ∧ xs.length ≤ 2048 ∧ (Jvm.Cond.and given_1 narrow_1).before args s = true
def lw_Q (_ : Array Value) (s : State) (o : Outcome) (t : State) : Prop := o = .returned (some (.int 1)) ∧ Framed s o t [] 46 5068
def lw_Z (below : List Frame) (a : Array Value) (s : State) : State → Prop := fun t => ∃ o, t.status = .running ∧ Ended t below o ∧ lw_Q a s o t
/-- the law's own end, with 1 on the stack, nothing written that was there before, its room as the claim has it -/
theorem lw_ret {p : Program} {l : Launch} {e : Env} {s : State} {m : MethodId} {below : List Frame} {meth : Method} {c : Code} {b : Nat} (hx : p.tables.exec = Jvm.exec) (hb : c.code = code) (hr : meth.sig.returnType = ret) (hlocks : meth.locks = false) {pc : Nat} {H : Heap} {ls : Array Slot} (hdg : decode code pc = .ok (.ireturn, 1)) : W p l e room_1 s m #[Value.ref b] below meth c H [] 46 5068 (lw_Z below #[Value.ref b] s) (F0 m pc ls [.int 1]) := by
  intro T hT X
  obtain ⟨fs, hret, hrun, hended, hW, hframe⟩ := X.leave (v := some (.int 1)) (hlocks := hlocks) (fun h => by rw [hr] at h; cases h)
  have hmeth' : T.vm.method? m = some meth := X.method'
  refine ⟨T.setFrames fs, ?_, .returned (some (.int 1)), hrun, hended, rfl, ⟨_, rfl⟩, hW, hframe⟩
  jvm_step X.here [X.here.top, hx, hb, hdg, hmeth', hr, ret, narrow_b1]
  (try refine ⟨rfl, ?_⟩); (try refine ⟨rfl, ?_⟩)
  first | (intro acts; rw [hret _ acts rfl rfl rfl]) | rw [hret _ _ rfl rfl rfl]
  exact Steps.refl _
/-- what holds at the law's entry: the machine, the code, the tables' words (any of lw_tbl by 'hts w (by decide +kernel)'), the script of L ints xs at the cell b, what the Statement gives of the start (any of its parts by flat_of_before) -/
def lw_At (p : Program) (s : State) (m : MethodId) (meth : Method) (c : Code) (b L : Nat) (xs : Nat → Int32) : Prop :=
  p.tables.exec = Jvm.exec ∧ c.code = code ∧ meth.sig.returnType = ret ∧ c.maxLocals = 4 ∧ s.vm.findClass R_law = some m.cls ∧ (∀ w ∈ lw_tbl, w.before #[Value.ref b] s = true) ∧ va_X b L xs s s.heap ∧ b < s.heap.size ∧ meth.locks = false ∧ (Jvm.Cond.and given_1 narrow_1).before #[Value.ref b] s = true

/-! the law's own calls -/
theorem lw_good {ws : List Cond} (h : ∀ w ∈ ws, w ∈ me_GT) : GoodIn lw_tbl ws := fun w hw => ⟨(List.mem_filter.mp (h w hw)).1, good_of_word (List.mem_filter.mp (h w hw)).2⟩
def lw_C (p : Program) (s : State) (m : MethodId) (meth : Method) (c : Code) (b L : Nat) (xs : Nat → Int32) (G : va_G) (cI cJ : ClassId) (ad : Nat → Nat) : Prop := lw_At p s m meth c b L xs ∧ me_En G cI cJ ad s ∧ ∀ i, i < me_lay.length → s.heap.size ≤ ad i
section LWC
variable {p : Program} {l : Launch} {e : Env} {s : State} {m : MethodId} {below : List Frame} {meth : Method} {c : Code} {b L : Nat} {xs : Nat → Int32} {G : va_G} {cI cJ : ClassId} {ad : Nat → Nat} {H : Heap} {locs : List Loc} {ls : Array Slot} {Qf : State → Prop} {pc ce sl : Nat} {ω : Om}
theorem lw_call {R : Room} {args : Array Value} {st0 rest : List Value} {a : Array Value} {Q : Option Value → Om → Prop} (hr : va_Run p l e R s m args below meth c H locs ce sl 0 0 (F0 m pc ls st0) rest (me_Post G cI cJ ad Q a) (me_A ad)) (had : ∀ i, i < me_lay.length → s.heap.size ≤ ad i) (hS : va_S (fun q => s.heap.size ≤ q) s.heap H locs)
    (kk : ∀ (r : Option Value) (ω' : Om) (H1 : Heap) (locs1 : List Loc), Q r ω' → va_P G vwCl (me_cc cI cJ ad ω') H1 → va_S (fun q => s.heap.size ≤ q) s.heap H1 locs1 → W p l e R s m args below meth c H1 locs1 ce sl Qf (F0 m (pc + 3) ls (r.toList ++ rest))) : W p l e R s m args below meth c H locs ce sl Qf (F0 m pc ls st0) := by
  have hA : ∀ q, me_A ad q → s.heap.size ≤ q := by
    rintro q ⟨i, hi, rfl⟩
    exact had i hi
  intro T hT X
  obtain ⟨v, st₀, t, T', L, h0, X', hL, e1, e2, ⟨⟨r, ω', hv, hq, hp⟩, hz, hk⟩, stp⟩ := hr T hT X
  cases hv
  rw [h0] at hz hk
  obtain ⟨t2, a1, b1⟩ := kk v ω' T'.heap (locs ++ L) hq (by rw [e1]; exact hp)
    ⟨Nat.le_trans hS.1 (by rw [e1]; exact hz), fun q h1 h2 => by rw [e1, hk q (Nat.lt_of_lt_of_le h1 hS.1) (fun z => h2 (hA q z))]; exact hS.2.1 q h1 h2, fun q hq => by
      rcases List.mem_append.mp hq with h | h
      · exact hS.2.2 q h
      · exact hA _ (hL q h)⟩ T' rfl X'
  exact ⟨t2, stp t2 a1, b1⟩
theorem lw_cv {i z k j : Nat} {as rest : List Value} {Q : Option Value → Om → Prop} (C : lw_C p s m meth c b L xs G cI cJ ad) (hP : va_P G vwCl (me_cc cI cJ ad ω) H) (hS : va_S (fun q => s.heap.size ≤ q) s.heap H locs) (hd : decode code pc = .ok (.invokevirtual i, 3)) (hz : z < 185) (hv : me_vi z = true) (hcl : me_iscl k (me_cl z) = true) (hw : me_wd j (.methodLink R_law i (me_mn z)) = true) (hn : as.length = me_mp z)
    (hroom : (me_rm z).frames + 1 ≤ room_1.frames ∧ 8 + (me_mL z + 11) + (me_rm z).locals ≤ room_1.locals) (h8 : (rest.map fun v => v.category).sum ≤ 8) (hls : ls.size = 4) (hri : as.map (me_rn ad) = as) (hCt : me_Ct z (.ref k :: as) ω Q)
    (kk : ∀ (r : Option Value) (ω' : Om) (H1 : Heap) (locs1 : List Loc), Q r ω' → va_P G vwCl (me_cc cI cJ ad ω') H1 → va_S (fun q => s.heap.size ≤ q) s.heap H1 locs1 → W p l e room_1 s m #[Value.ref b] below meth c H1 locs1 46 5068 Qf (F0 m (pc + 3) ls (r.toList ++ rest))) : W p l e room_1 s m #[Value.ref b] below meth c H locs 46 5068 Qf (F0 m pc ls (as.reverse ++ .ref (ad k) :: rest)) := by
  obtain ⟨⟨hx, hb, hr, hml, hown, hts, hX, hbl, hlocks, hgv⟩, hE, had⟩ := C
  obtain ⟨g1, g2, g3, g4, g5, g6⟩ := me_cm_in (me_cms z hz)
  unfold me_vi at hv
  simp only [Bool.and_eq_true, decide_eq_true_eq] at hv
  obtain ⟨⟨v1, v2⟩, v3⟩ := hv
  obtain ⟨q, hq, hq1⟩ := Option.map_eq_some_iff.mp v3
  refine lw_call (va_runV (C := (me_mn z).cls) (b := ad k) (As := as) (rest := rest) ⟨hx, hb, hml, hown, hts⟩ (hCt l G cI cJ ad) (cwV (me_mp z) hts (lw_good (ws := wsV R_law i (me_mn z).cls (me_mn z) (me_ws z)) ?_) rfl rfl rfl ⟨rfl, g5, g6, g4⟩ hroom) ⟨me_blind _ _ _ _ _ _, ?_, ?_⟩ rfl hn hls rfl (lv_room h8) hd ⟨Nat.le_refl _, Nat.le_refl _⟩) had hS kk
  · intro w hw'
    rcases List.mem_append.mp hw' with hw' | hw'
    · simp only [List.mem_cons, List.not_mem_nil, or_false] at hw'
      rcases hw' with rfl | rfl | rfl | rfl
      · exact me_wd_in hw
      · exact me_wd_in v1
      · exact me_wd_in v2
      · exact g2
    · exact g1 w hw'
  · rw [← hq1]
    exact me_recv hE hP hcl hq
  · intro U hU hW
    refine ⟨?_, by rw [hU]; exact hP, hE.to hW.alike (fun q h1 _ => by rw [hU]; exact hS.2.1 q h1 (by omega)) (hE.2.2.2.warm hW)⟩
    show (Value.ref (ad k) :: as).toArray = (me_rn ad (.ref k) :: as.map (me_rn ad)).toArray
    rw [hri]
    rfl
end LWC
