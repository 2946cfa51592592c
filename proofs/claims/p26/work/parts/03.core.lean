/-! A SMALL MACHINE OVER THE KIT'S: the whole world (both objects, all their rows) is one pair of tables of numbers; a method's contract is said over such worlds; the judgement me_W is the kit's W at any heap that holds the world -/
/-- a world: the ints and the longs of each cell, by place -/
abbrev Om : Type := (Nat → Nat → Int32) × (Nat → Nat → Int64)
def ui (ω : Om) (i k : Nat) (v : Int32) : Om := (fun a => if a = i then upd (ω.1 i) k v else ω.1 a, ω.2)
def ul (ω : Om) (i k : Nat) (v : Int64) : Om := (ω.1, fun a => if a = i then vp_updL (ω.2 i) k v else ω.2 a)
def ur (ω : Om) (i : Nat) (f : Nat → Int32) : Om := (fun a => if a = i then f else ω.1 a, ω.2)
/-- the 46 cells: class and kinds of the fields (0 an int, 1 a long, n + 2 the cell n); 100: a row of ints, 101: of longs, with its length -/
def me_lay : List (Nat × List Nat) := [(10, [3, 5, 7, 9, 11, 13, 18, 19, 22, 27, 29, 0]), (6, [4, 0]), (100, [55]), (1, [6, 0, 0, 0, 0, 0]), (100, [24]), (8, [8, 0, 0, 0, 0, 0]), (100, [7]), (0, [10, 0]), (100, [24]), (7, [12, 0, 0]), (100, [7]), (3, [14, 15, 16, 17, 0, 0]), (100, [7]), (100, [7]), (100, [28]), (100, [4]), (5, [0, 0, 0, 0]), (4, [20, 21, 0, 0, 0, 0, 0]), (100, [28]), (100, [4]), (2, [23, 24, 25, 26, 0, 0]), (100, [28]), (100, [28]), (101, [28]), (100, [7]), (9, [28]), (101, [896]), (9, [30]), (101, [896]),
  (11, [32, 0, 33, 0, 34, 0, 0, 0, 0, 0, 0, 35, 0, 0, 36, 0, 0, 0, 0, 0, 37, 38, 39, 40, 41, 42, 43, 44, 45, 0, 0, 0, 0, 0, 0, 46, 47, 1]), (100, [55]), (100, [24]), (100, [24]), (100, [7]), (100, [7]), (100, [7]), (100, [7]), (100, [28]), (100, [4]), (101, [896]), (101, [7]), (100, [896]), (101, [896]), (100, [6]), (100, [4]), (100, [28])]
def me_fv (ad : Nat → Nat) (fi : Nat → Int32) (fl : Nat → Int64) (k x : Nat) : Value := match x with
  | 0 => .int (fi k)
  | 1 => .long (fl k)
  | n + 2 => .ref (ad n)
def me_ce (cI cJ : ClassId) (ad : Nat → Nat) (fi : Nat → Int32) (fl : Nat → Int64) (q : Nat × List Nat) : va_E :=
  if q.1 = 100 then .inl (cI, q.2.headD 0, .inl fi) else if q.1 = 101 then .inl (cJ, q.2.headD 0, .inr (.inl fl)) else .inr (q.1, q.2.mapIdx (me_fv ad fi fl))
def me_cc (cI cJ : ClassId) (ad : Nat → Nat) (ω : Om) : va_W := me_lay.mapIdx (fun i q => (ad i, me_ce cI cJ ad (ω.1 i) (ω.2 i) q))
theorem me_cc_at {cI cJ : ClassId} {ad : Nat → Nat} {ω : Om} {i : Nat} {q : Nat × List Nat} (h : me_lay[i]? = some q) : (me_cc cI cJ ad ω)[i]? = some (ad i, me_ce cI cJ ad (ω.1 i) (ω.2 i) q) := by
  simp [me_cc, List.getElem?_mapIdx, h]
theorem me_cc_inv {cI cJ : ClassId} {ad : Nat → Nat} {ω : Om} {i : Nat} {x : Nat × va_E} (h : (me_cc cI cJ ad ω)[i]? = some x) : i < me_lay.length ∧ x.1 = ad i := by
  simp only [me_cc, List.getElem?_mapIdx, Option.map_eq_some_iff] at h
  obtain ⟨q, h1, rfl⟩ := h
  exact ⟨(List.getElem?_eq_some_iff.mp h1).1, rfl⟩
theorem me_cc_set {cI cJ : ClassId} {ad : Nat → Nat} {ω ω' : Om} {i : Nat} {q : Nat × List Nat} {e : va_E} (h : me_lay[i]? = some q) (h1 : ∀ a, a ≠ i → ω'.1 a = ω.1 a) (h2 : ∀ a, a ≠ i → ω'.2 a = ω.2 a) (he : me_ce cI cJ ad (ω'.1 i) (ω'.2 i) q = e) : (me_cc cI cJ ad ω).set i (ad i, e) = me_cc cI cJ ad ω' := by
  refine List.ext_getElem? fun j => ?_
  rw [List.getElem?_set]
  by_cases hj : i = j
  · subst hj
    have hl : i < (me_cc cI cJ ad ω).length := (List.getElem?_eq_some_iff.mp (me_cc_at (cI := cI) (cJ := cJ) (ad := ad) (ω := ω) h)).1
    rw [if_pos rfl, if_pos hl, me_cc_at h, he]
  · rw [if_neg hj]
    simp only [me_cc, List.getElem?_mapIdx]
    rw [h1 j (Ne.symm hj), h2 j (Ne.symm hj)]
def me_A (ad : Nat → Nat) (q : Nat) : Prop := ∃ i, i < me_lay.length ∧ q = ad i
def me_AD (ad : Nat → Nat) : Prop := ∀ i j, i < me_lay.length → j < me_lay.length → ad i = ad j → i = j
theorem me_D {cI cJ : ClassId} {ad : Nat → Nat} {ω : Om} (h : me_AD ad) : va_D (me_A ad) (me_cc cI cJ ad ω) := by
  refine ⟨fun i j p q hi hj hpq => ?_, fun k q hk => ?_⟩
  · obtain ⟨a1, a2⟩ := me_cc_inv hi
    obtain ⟨b1, b2⟩ := me_cc_inv hj
    exact h i j a1 b1 (by rw [← a2, ← b2]; exact hpq)
  · obtain ⟨a1, a2⟩ := me_cc_inv hk
    exact ⟨k, a1, a2⟩
/-- the two rows of constants -/
def me_ten (j : Nat) : Value := .long (Int64.ofNat (10 ^ j))
def me_five (j : Nat) : Value := .int (Int32.ofNat (5 ^ j))
def me_St (ad : Nat → Nat) (U : State) : Prop := va_Z "WokenOnce" "POWERS_OF_TEN" "[J" (.ref (ad 46)) (me_A ad) U U.heap ∧ va_T .long (ad 46) 7 me_ten (me_A ad) U U.heap ∧ va_Z "WokenOnce" "POWERS_OF_FIVE" "[I" (.ref (ad 47)) (me_A ad) U U.heap ∧ va_T .int (ad 47) 7 me_five (me_A ad) U U.heap
abbrev me_ty (cI cJ : ClassId) : List (ClassId × FieldType) := [(cI, .int), (cJ, .long)]
/-- words that don't travel by themselves: links of nest mates, a declared method -/
def me_isn : Cond → Bool
  | .methodLinkNest _ _ _ _ => true
  | .declares _ => true
  | _ => false
def me_nw : List Cond := lw_tbl.filter me_isn
def me_Nw (U : State) : Prop := ∀ w ∈ me_nw, va_Nw w U
theorem me_Nw.warm {s U : State} (hW : s.WarmedH U.vm) (h : me_Nw s) : me_Nw U := by
  intro w hw
  have h1 := h w hw
  have h2 := (List.mem_filter.mp hw).2
  unfold me_isn at h2
  split at h2
  · exact va_Nw.warmM hW h1
  · exact va_Nw.warmD hW h1
  · cases h2
theorem me_Nw.same {s U : State} (hv : s.vm = U.vm) (h : me_Nw s) : me_Nw U := by
  intro w hw
  have h1 := h w hw
  have h2 := (List.mem_filter.mp hw).2
  unfold me_isn at h2
  split at h2
  · exact va_Nw.same rfl hv h1
  · exact va_Nw.same rfl hv h1
  · cases h2
def me_En (G : va_G) (cI cJ : ClassId) (ad : Nat → Nat) (U : State) : Prop := va_K G vwCl (me_ty cI cJ) U ∧ me_AD ad ∧ me_St ad U ∧ me_Nw U
theorem me_En.to {G : va_G} {cI cJ : ClassId} {ad : Nat → Nat} {s U : State} (h : me_En G cI cJ ad s) (hvm : s.vm.Alike U.vm) (hk : ∀ q : Nat, q < s.heap.size → ¬ me_A ad q → U.heap[q]? = s.heap[q]?) (hn : me_Nw U) : me_En G cI cJ ad U := by
  obtain ⟨h1, h2, ⟨h3, h4, h5, h6⟩, -⟩ := h
  exact ⟨va_K.moved hvm h1, h2, ⟨va_Z.kept (va_Z.moved hvm h3) hk, va_T.kept (va_T.moved hvm h4) hk, va_Z.kept (va_Z.moved hvm h5) hk, va_T.kept (va_T.moved hvm h6) hk⟩, hn⟩
/-- a reference of the small machine is a cell's number -/
def me_rn (ad : Nat → Nat) (v : Value) : Value := match v with
  | .ref k => .ref (ad k)
  | v => v
theorem me_rn_cat (ad : Nat → Nat) (v : Value) : (me_rn ad v).category = v.category := by cases v <;> rfl
theorem me_rn_sum (ad : Nat → Nat) (st : List Value) : ((st.map (me_rn ad)).map fun v => v.category).sum = (st.map fun v => v.category).sum := by
  rw [List.map_map]
  congr 1
  exact List.map_congr_left fun v _ => me_rn_cat ad v
def me_Pre (G : va_G) (cI cJ : ClassId) (ad : Nat → Nat) (args : List Value) (ω : Om) : Array Value → State → Prop := fun v U => v = (args.map (me_rn ad)).toArray ∧ va_P G vwCl (me_cc cI cJ ad ω) U.heap ∧ me_En G cI cJ ad U
def me_Post (G : va_G) (cI cJ : ClassId) (ad : Nat → Nat) (P : Option Value → Om → Prop) : Array Value → State → Outcome → State → Prop := fun _ st o t => (∃ (r : Option Value) (ω' : Om), o = .returned r ∧ P r ω' ∧ va_P G vwCl (me_cc cI cJ ad ω') t.heap) ∧ va_F (me_A ad) st t
def me_ws (y : Nat) : List Cond := .code (me_mn y) (me_mb y) (me_mL y) (me_mr y) :: me_GT
def me_rm (y : Nat) : Room := { frames := (me_mf y).1, cells := 0, slots := 0, locals := (me_mf y).2 }
/-- THE CONTRACT of method y at these arguments and this world -/
def me_Ct (y : Nat) (args : List Value) (ω : Om) (P : Option Value → Om → Prop) : Prop := ∀ (l : Launch) (G : va_G) (cI cJ : ClassId) (ad : Nat → Nat), Met l (me_mn y) (me_ws y) (me_rm y) (me_Pre G cI cJ ad args ω) (me_Post G cI cJ ad P) 0 0 (me_A ad)
/-- what is known of the locals -/
def me_ll : Nat → List (Option Value) → List (Nat × Value)
  | _, [] => []
  | i, none :: t => me_ll (i + 1) t
  | i, some v :: t => (i, v) :: me_ll (i + 1) t
theorem me_ll_mem : ∀ (L : List (Option Value)) (i j : Nat) (v : Value), (j, v) ∈ me_ll i L ↔ ∃ k, j = i + k ∧ L[k]? = some (some v)
  | [], i, j, v => by simp [me_ll]
  | none :: t, i, j, v => by
    rw [me_ll, me_ll_mem t (i + 1) j v]
    constructor
    · rintro ⟨k, h1, h2⟩
      exact ⟨k + 1, by omega, by simpa using h2⟩
    · rintro ⟨k, h1, h2⟩
      match k, h2 with
      | 0, h2 => simp at h2
      | k + 1, h2 => exact ⟨k, by omega, by simpa using h2⟩
  | some w :: t, i, j, v => by
    rw [me_ll, List.mem_cons, me_ll_mem t (i + 1) j v]
    constructor
    · rintro (h | ⟨k, h1, h2⟩)
      · cases h
        exact ⟨0, by omega, rfl⟩
      · exact ⟨k + 1, by omega, by simpa using h2⟩
    · rintro ⟨k, h1, h2⟩
      match k, h2 with
      | 0, h2 =>
        left
        simp at h2
        rw [h1, h2]; rfl
      | k + 1, h2 => exact Or.inr ⟨k, by omega, by simpa using h2⟩
def me_lv (ls : Array Slot) (n : Nat) (ad : Nat → Nat) (L : List (Option Value)) : Prop := lv_has ls n ((me_ll 0 L).map fun q => (q.1, me_rn ad q.2))
theorem me_lv.get {ls : Array Slot} {n : Nat} {ad : Nat → Nat} {L : List (Option Value)} (h : me_lv ls n ad L) {i : Nat} {v : Value} (hi : L[i]? = some (some v)) : ls[i]? = some (.val (me_rn ad v)) := by
  refine h.2.2 (i, me_rn ad v) (List.mem_map.mpr ⟨(i, v), ?_, rfl⟩)
  rw [me_ll_mem]
  exact ⟨i, by omega, hi⟩
/-- fewer known locals -/
theorem me_lv.sub {ls : Array Slot} {n : Nat} {ad : Nat → Nat} {L L' : List (Option Value)} (h : me_lv ls n ad L) (hs : ∀ (i : Nat) (v : Value), L'[i]? = some (some v) → L[i]? = some (some v)) : me_lv ls n ad L' := by
  refine ⟨h.1, h.2.1, fun q hq => ?_⟩
  obtain ⟨⟨i, v⟩, h1, rfl⟩ := List.mem_map.mp hq
  rw [me_ll_mem] at h1
  obtain ⟨k, e, h2⟩ := h1
  obtain rfl : i = k := by omega
  exact h.get (hs i v h2)
/-- storing -/
def me_k (L : List (Option Value)) (i : Nat) : List (Option Value) := match i with
  | 0 => L
  | k + 1 => match L[k]? with
    | some (some w) => if w.category = 2 then L.set k none else L
    | _ => L
def me_s1 (L : List (Option Value)) (i : Nat) (v : Value) : List (Option Value) := (me_k L i).set i (some v)
def me_s2 (L : List (Option Value)) (i : Nat) (v : Value) : List (Option Value) := ((me_k L i).set i (some v)).set (i + 1) none
theorem me_k_sub {L : List (Option Value)} {i j : Nat} {v : Value} (h : (me_k L i)[j]? = some (some v)) : L[j]? = some (some v) ∧ ¬ (j + 1 = i ∧ v.category = 2) := by
  match i, h with
  | 0, h => exact ⟨h, fun q => by omega⟩
  | k + 1, h =>
    unfold me_k at h
    cases hk : L[k]? with
    | none =>
      simp only [hk] at h
      refine ⟨h, fun q => ?_⟩
      obtain rfl : j = k := by omega
      rw [hk] at h; cases h
    | some w =>
      cases w with
      | none =>
        simp only [hk] at h
        refine ⟨h, fun q => ?_⟩
        obtain rfl : j = k := by omega
        rw [hk] at h; cases h
      | some w =>
        simp only [hk] at h
        by_cases hc : w.category = 2
        · rw [if_pos hc, List.getElem?_set] at h
          by_cases hj : k = j
          · rw [if_pos hj] at h
            split at h <;> cases h
          · rw [if_neg hj] at h
            exact ⟨h, fun q => hj (by omega)⟩
        · rw [if_neg hc] at h
          refine ⟨h, fun q => ?_⟩
          obtain rfl : j = k := by omega
          rw [hk] at h
          cases h
          exact hc q.2
theorem me_lv.s1 {ls : Array Slot} {n : Nat} {ad : Nat → Nat} {L : List (Option Value)} {i : Nat} {v : Value} (h : lv_has ls n ((i, me_rn ad v) :: ((me_ll 0 L).map fun q => (q.1, me_rn ad q.2)).filter (fun q => !(q.1 == i) && !(q.1 + 1 == i && q.2.category == 2)))) : me_lv ls n ad (me_s1 L i v) := by
  refine ⟨h.1, h.2.1, fun q hq => ?_⟩
  obtain ⟨⟨j, w⟩, h1, rfl⟩ := List.mem_map.mp hq
  rw [me_ll_mem] at h1
  obtain ⟨k, e, h2⟩ := h1
  obtain rfl : j = k := by omega
  rw [me_s1, List.getElem?_set] at h2
  by_cases hj : i = j
  · rw [if_pos hj] at h2
    split at h2
    · cases h2
      subst hj
      exact h.2.2 _ List.mem_cons_self
    · cases h2
  · rw [if_neg hj] at h2
    obtain ⟨h3, h4⟩ := me_k_sub h2
    refine h.2.2 (j, me_rn ad w) (List.mem_cons_of_mem _ (List.mem_filter.mpr ⟨List.mem_map.mpr ⟨(j, w), ?_, rfl⟩, ?_⟩))
    · rw [me_ll_mem]; exact ⟨j, by omega, h3⟩
    · simp only [me_rn_cat]
      have : ¬ j = i := fun q => hj q.symm
      simp [this]
      exact Decidable.not_and_iff_or_not.mp h4
theorem me_lv.s2 {ls : Array Slot} {n : Nat} {ad : Nat → Nat} {L : List (Option Value)} {i : Nat} {v : Value} (h : lv_has ls n ((i, me_rn ad v) :: ((me_ll 0 L).map fun q => (q.1, me_rn ad q.2)).filter (fun q => !(q.1 == i) && (!(q.1 == i + 1) && !(q.1 + 1 == i && q.2.category == 2))))) : me_lv ls n ad (me_s2 L i v) := by
  refine ⟨h.1, h.2.1, fun q hq => ?_⟩
  obtain ⟨⟨j, w⟩, h1, rfl⟩ := List.mem_map.mp hq
  rw [me_ll_mem] at h1
  obtain ⟨k, e, h2⟩ := h1
  obtain rfl : j = k := by omega
  rw [me_s2, List.getElem?_set] at h2
  by_cases hj1 : i + 1 = j
  · rw [if_pos hj1] at h2
    split at h2 <;> cases h2
  · rw [if_neg hj1, List.getElem?_set] at h2
    by_cases hj : i = j
    · rw [if_pos hj] at h2
      split at h2
      · cases h2
        subst hj
        exact h.2.2 _ List.mem_cons_self
      · cases h2
    · rw [if_neg hj] at h2
      obtain ⟨h3, h4⟩ := me_k_sub h2
      refine h.2.2 (j, me_rn ad w) (List.mem_cons_of_mem _ (List.mem_filter.mpr ⟨List.mem_map.mpr ⟨(j, w), ?_, rfl⟩, ?_⟩))
      · rw [me_ll_mem]; exact ⟨j, by omega, h3⟩
      · simp only [me_rn_cat]
        have e1 : ¬ j = i := fun q => hj q.symm
        have e2 : ¬ j = i + 1 := fun q => hj1 q.symm
        simp [e1, e2]
        exact Decidable.not_and_iff_or_not.mp h4
/-- what holds inside a method -/
def me_At (y : Nat) (p : Program) (s : State) (m : MethodId) (args : Array Value) (meth : Method) (c : Code) (G : va_G) (cI cJ : ClassId) (ad : Nat → Nat) : Prop :=
  p.tables.exec = Jvm.exec ∧ c.code = me_mb y ∧ meth.sig.returnType = me_mr y ∧ c.maxLocals = me_mL y ∧ s.vm.findClass (me_mn y).cls = some m.cls ∧ (∀ w ∈ me_ws y, w.before args s = true) ∧ meth.locks = false ∧ me_En G cI cJ ad s
/-- THE JUDGEMENT: at this place, with these locals and operands and this world, the method comes to its end with P -/
def me_W (y pc : Nat) (L : List (Option Value)) (st : List Value) (ω : Om) (P : Option Value → Om → Prop) : Prop :=
  ∀ (p : Program) (l : Launch) (e : Env) (s : State) (m : MethodId) (args : Array Value) (below : List Frame) (meth : Method) (c : Code) (G : va_G) (cI cJ : ClassId) (ad : Nat → Nat) (H : Heap) (locs : List Loc) (ls : Array Slot),
    me_At y p s m args meth c G cI cJ ad → va_P G vwCl (me_cc cI cJ ad ω) H → va_S (me_A ad) s.heap H locs → me_lv ls (me_mL y) ad L →
    W p l e (me_rm y) s m args below meth c H locs 0 0 (MQ below (me_Post G cI cJ ad P) args s 0 0 (me_A ad)) (F0 m pc ls (st.map (me_rn ad)))
theorem me_W.sub {y pc : Nat} {L L' : List (Option Value)} {st : List Value} {ω : Om} {P : Option Value → Om → Prop} (h : me_W y pc L' st ω P) (hs : ∀ (i : Nat) (v : Value), L'[i]? = some (some v) → L[i]? = some (some v)) : me_W y pc L st ω P :=
  fun p l e s m args below meth c G cI cJ ad H locs ls hAt hP hS hl => h p l e s m args below meth c G cI cJ ad H locs ls hAt hP hS (hl.sub hs)
