theorem me_x_aload_n {y pc : Nat} {L : List (Option Value)} {st : List Value} {ω : Om} {P : Option Value → Om → Prop} {K : me_K} (hK : ∀ pc L st ω, K pc L st ω → me_W y pc L st ω P) {n : Fin 4} (hd : decode (me_mb y) pc = .ok (.aload_n n, 1)) (h : me_lr L n.val fun v => K (pc + 1) L (.ref v :: st) ω) : me_W y pc L st ω P := by
  unfold me_lr at h
  split at h
  next v hv =>
    intro p l e s m args below meth c G cI cJ ad H locs ls hAt hP hS hl
    obtain ⟨hx, hb, hr, hml, hown, hts, hlk, hE⟩ := id hAt
    exact lv_aload_n hx hb hd rfl (hl.get hv) (hK _ _ _ _ h p l e s m args below meth c G cI cJ ad H locs ls hAt hP hS hl)
  next => exact h.elim
theorem me_x_iload_n {y pc : Nat} {L : List (Option Value)} {st : List Value} {ω : Om} {P : Option Value → Om → Prop} {K : me_K} (hK : ∀ pc L st ω, K pc L st ω → me_W y pc L st ω P) {n : Fin 4} (hd : decode (me_mb y) pc = .ok (.iload_n n, 1)) (h : me_li L n.val fun v => K (pc + 1) L (.int v :: st) ω) : me_W y pc L st ω P := by
  unfold me_li at h
  split at h
  next v hv =>
    intro p l e s m args below meth c G cI cJ ad H locs ls hAt hP hS hl
    obtain ⟨hx, hb, hr, hml, hown, hts, hlk, hE⟩ := id hAt
    exact lv_iload_n hx hb hd rfl (hl.get hv) (hK _ _ _ _ h p l e s m args below meth c G cI cJ ad H locs ls hAt hP hS hl)
  next => exact h.elim
theorem me_x_iload {y pc : Nat} {L : List (Option Value)} {st : List Value} {ω : Om} {P : Option Value → Om → Prop} {K : me_K} (hK : ∀ pc L st ω, K pc L st ω → me_W y pc L st ω P) {n : Nat} (hd : decode (me_mb y) pc = .ok (.iload n, 2)) (h : me_li L n fun v => K (pc + 2) L (.int v :: st) ω) : me_W y pc L st ω P := by
  unfold me_li at h
  split at h
  next v hv =>
    intro p l e s m args below meth c G cI cJ ad H locs ls hAt hP hS hl
    obtain ⟨hx, hb, hr, hml, hown, hts, hlk, hE⟩ := id hAt
    exact lv_iload hx hb hd (hl.get hv) (hK _ _ _ _ h p l e s m args below meth c G cI cJ ad H locs ls hAt hP hS hl)
  next => exact h.elim
theorem me_x_lload_n {y pc : Nat} {L : List (Option Value)} {st : List Value} {ω : Om} {P : Option Value → Om → Prop} {K : me_K} (hK : ∀ pc L st ω, K pc L st ω → me_W y pc L st ω P) {n : Fin 4} (hd : decode (me_mb y) pc = .ok (.lload_n n, 1)) (h : me_lj L n.val fun v => K (pc + 1) L (.long v :: st) ω) : me_W y pc L st ω P := by
  unfold me_lj at h
  split at h
  next v hv =>
    intro p l e s m args below meth c G cI cJ ad H locs ls hAt hP hS hl
    obtain ⟨hx, hb, hr, hml, hown, hts, hlk, hE⟩ := id hAt
    exact lv_lload_n hx hb hd rfl (hl.get hv) (hK _ _ _ _ h p l e s m args below meth c G cI cJ ad H locs ls hAt hP hS hl)
  next => exact h.elim
theorem me_x_lload {y pc : Nat} {L : List (Option Value)} {st : List Value} {ω : Om} {P : Option Value → Om → Prop} {K : me_K} (hK : ∀ pc L st ω, K pc L st ω → me_W y pc L st ω P) {n : Nat} (hd : decode (me_mb y) pc = .ok (.lload n, 2)) (h : me_lj L n fun v => K (pc + 2) L (.long v :: st) ω) : me_W y pc L st ω P := by
  unfold me_lj at h
  split at h
  next v hv =>
    intro p l e s m args below meth c G cI cJ ad H locs ls hAt hP hS hl
    obtain ⟨hx, hb, hr, hml, hown, hts, hlk, hE⟩ := id hAt
    exact lv_lload hx hb hd (hl.get hv) (hK _ _ _ _ h p l e s m args below meth c G cI cJ ad H locs ls hAt hP hS hl)
  next => exact h.elim
theorem me_x_istore_n {y pc : Nat} {L : List (Option Value)} {st : List Value} {ω : Om} {P : Option Value → Om → Prop} {K : me_K} (hK : ∀ pc L st ω, K pc L st ω → me_W y pc L st ω P) {n : Fin 4} (hd : decode (me_mb y) pc = .ok (.istore_n n, 1)) (hn : n.val < me_mL y) (h : me_i1 st fun v r => me_fc (me_s1 L n.val (.int v)) fun L' => K (pc + 1) L' r ω) : me_W y pc L st ω P := by
  unfold me_i1 at h
  split at h
  next v r =>
    intro p l e s m args below meth c G cI cJ ad H locs ls hAt hP hS hl
    obtain ⟨hx, hb, hr, hml, hown, hts, hlk, hE⟩ := id hAt
    exact lv_istore_n hx hb hd rfl hl hn rfl (fun ls' hl' => hK _ _ _ _ (me_fc_ok h) p l e s m args below meth c G cI cJ ad H locs ls' hAt hP hS (me_lv.s1 (v := .int v) hl'))
  next => exact h.elim
theorem me_x_istore {y pc : Nat} {L : List (Option Value)} {st : List Value} {ω : Om} {P : Option Value → Om → Prop} {K : me_K} (hK : ∀ pc L st ω, K pc L st ω → me_W y pc L st ω P) {n : Nat} (hd : decode (me_mb y) pc = .ok (.istore n, 2)) (hn : n < me_mL y) (h : me_i1 st fun v r => me_fc (me_s1 L n (.int v)) fun L' => K (pc + 2) L' r ω) : me_W y pc L st ω P := by
  unfold me_i1 at h
  split at h
  next v r =>
    intro p l e s m args below meth c G cI cJ ad H locs ls hAt hP hS hl
    obtain ⟨hx, hb, hr, hml, hown, hts, hlk, hE⟩ := id hAt
    exact lv_istore hx hb hd hl hn rfl (fun ls' hl' => hK _ _ _ _ (me_fc_ok h) p l e s m args below meth c G cI cJ ad H locs ls' hAt hP hS (me_lv.s1 (v := .int v) hl'))
  next => exact h.elim
theorem me_x_lstore_n {y pc : Nat} {L : List (Option Value)} {st : List Value} {ω : Om} {P : Option Value → Om → Prop} {K : me_K} (hK : ∀ pc L st ω, K pc L st ω → me_W y pc L st ω P) {n : Fin 4} (hd : decode (me_mb y) pc = .ok (.lstore_n n, 1)) (hn : n.val + 1 < me_mL y) (h : me_j1 st fun v r => me_fc (me_s2 L n.val (.long v)) fun L' => K (pc + 1) L' r ω) : me_W y pc L st ω P := by
  unfold me_j1 at h
  split at h
  next v r =>
    intro p l e s m args below meth c G cI cJ ad H locs ls hAt hP hS hl
    obtain ⟨hx, hb, hr, hml, hown, hts, hlk, hE⟩ := id hAt
    exact lv_lstore_n hx hb hd rfl hl hn rfl (fun ls' hl' => hK _ _ _ _ (me_fc_ok h) p l e s m args below meth c G cI cJ ad H locs ls' hAt hP hS (me_lv.s2 (v := .long v) hl'))
  next => exact h.elim
theorem me_x_lstore {y pc : Nat} {L : List (Option Value)} {st : List Value} {ω : Om} {P : Option Value → Om → Prop} {K : me_K} (hK : ∀ pc L st ω, K pc L st ω → me_W y pc L st ω P) {n : Nat} (hd : decode (me_mb y) pc = .ok (.lstore n, 2)) (hn : n + 1 < me_mL y) (h : me_j1 st fun v r => me_fc (me_s2 L n (.long v)) fun L' => K (pc + 2) L' r ω) : me_W y pc L st ω P := by
  unfold me_j1 at h
  split at h
  next v r =>
    intro p l e s m args below meth c G cI cJ ad H locs ls hAt hP hS hl
    obtain ⟨hx, hb, hr, hml, hown, hts, hlk, hE⟩ := id hAt
    exact lv_lstore hx hb hd hl hn rfl (fun ls' hl' => hK _ _ _ _ (me_fc_ok h) p l e s m args below meth c G cI cJ ad H locs ls' hAt hP hS (me_lv.s2 (v := .long v) hl'))
  next => exact h.elim
theorem me_x_iinc {y pc : Nat} {L : List (Option Value)} {st : List Value} {ω : Om} {P : Option Value → Om → Prop} {K : me_K} (hK : ∀ pc L st ω, K pc L st ω → me_W y pc L st ω P) {n : Nat} {z : Int} (hd : decode (me_mb y) pc = .ok (.iinc n z, 3)) (hn : n < me_mL y) (h : me_li L n fun v => me_fc (me_s1 L n (.int (v + Int32.ofInt z))) fun L' => K (pc + 3) L' st ω) : me_W y pc L st ω P := by
  unfold me_li at h
  split at h
  next v hv =>
    intro p l e s m args below meth c G cI cJ ad H locs ls hAt hP hS hl
    obtain ⟨hx, hb, hr, hml, hown, hts, hlk, hE⟩ := id hAt
    have hm : (n, Value.int v) ∈ (me_ll 0 L).map fun q => (q.1, me_rn ad q.2) := List.mem_map.mpr ⟨(n, .int v), (me_ll_mem _ _ _ _).mpr ⟨n, by omega, hv⟩, rfl⟩
    obtain ⟨k, hk⟩ := List.getElem?_of_mem hm
    exact lv_iinc hx hb hd hl hk rfl hn rfl (fun ls' hl' => hK _ _ _ _ (me_fc_ok h) p l e s m args below meth c G cI cJ ad H locs ls' hAt hP hS (me_lv.s1 (v := .int (v + Int32.ofInt z)) hl'))
  next => exact h.elim
theorem me_x_iconst {y pc : Nat} {L : List (Option Value)} {st : List Value} {ω : Om} {P : Option Value → Om → Prop} {K : me_K} (hK : ∀ pc L st ω, K pc L st ω → me_W y pc L st ω P) {z : Int} (hd : decode (me_mb y) pc = .ok (.iconst z, 1)) (h : K (pc + 1) L (.int (Int32.ofInt z) :: st) ω) : me_W y pc L st ω P := by
  intro p l e s m args below meth c G cI cJ ad H locs ls hAt hP hS hl
  obtain ⟨hx, hb, hr, hml, hown, hts, hlk, hE⟩ := id hAt
  exact lv_iconst hx hb hd rfl (hK _ _ _ _ h p l e s m args below meth c G cI cJ ad H locs ls hAt hP hS hl)
theorem me_x_bipush {y pc : Nat} {L : List (Option Value)} {st : List Value} {ω : Om} {P : Option Value → Om → Prop} {K : me_K} (hK : ∀ pc L st ω, K pc L st ω → me_W y pc L st ω P) {z : Int} (hd : decode (me_mb y) pc = .ok (.bipush z, 2)) (h : K (pc + 2) L (.int ((Int8.ofInt z).toInt32) :: st) ω) : me_W y pc L st ω P := by
  intro p l e s m args below meth c G cI cJ ad H locs ls hAt hP hS hl
  obtain ⟨hx, hb, hr, hml, hown, hts, hlk, hE⟩ := id hAt
  exact lv_bipush hx hb hd rfl (hK _ _ _ _ h p l e s m args below meth c G cI cJ ad H locs ls hAt hP hS hl)
theorem me_x_sipush {y pc : Nat} {L : List (Option Value)} {st : List Value} {ω : Om} {P : Option Value → Om → Prop} {K : me_K} (hK : ∀ pc L st ω, K pc L st ω → me_W y pc L st ω P) {z : Int} (hd : decode (me_mb y) pc = .ok (.sipush z, 3)) (h : K (pc + 3) L (.int ((Int16.ofInt z).toInt32) :: st) ω) : me_W y pc L st ω P := by
  intro p l e s m args below meth c G cI cJ ad H locs ls hAt hP hS hl
  obtain ⟨hx, hb, hr, hml, hown, hts, hlk, hE⟩ := id hAt
  exact lv_sipush hx hb hd rfl (hK _ _ _ _ h p l e s m args below meth c G cI cJ ad H locs ls hAt hP hS hl)
theorem me_x_lconst {y pc : Nat} {L : List (Option Value)} {st : List Value} {ω : Om} {P : Option Value → Om → Prop} {K : me_K} (hK : ∀ pc L st ω, K pc L st ω → me_W y pc L st ω P) {z : Fin 2} (hd : decode (me_mb y) pc = .ok (.lconst z, 1)) (h : K (pc + 1) L (.long (Int64.ofNat (z : Nat)) :: st) ω) : me_W y pc L st ω P := by
  intro p l e s m args below meth c G cI cJ ad H locs ls hAt hP hS hl
  obtain ⟨hx, hb, hr, hml, hown, hts, hlk, hE⟩ := id hAt
  exact lv_lconst hx hb hd rfl (hK _ _ _ _ h p l e s m args below meth c G cI cJ ad H locs ls hAt hP hS hl)
theorem me_x_ldc {y pc : Nat} {L : List (Option Value)} {st : List Value} {ω : Om} {P : Option Value → Om → Prop} {K : me_K} (hK : ∀ pc L st ω, K pc L st ω → me_W y pc L st ω P) {i : Nat} {z : Int} (hd : decode (me_mb y) pc = .ok (.ldc i, 2)) (hw : Cond.constant (me_mn y).cls i (Int32.ofInt z) ∈ me_GT) (h : K (pc + 2) L (.int (Int32.ofInt z) :: st) ω) : me_W y pc L st ω P := by
  intro p l e s m args below meth c G cI cJ ad H locs ls hAt hP hS hl
  obtain ⟨hx, hb, hr, hml, hown, hts, hlk, hE⟩ := id hAt
  exact lv_ldc hx hb hown (hts _ (List.mem_cons_of_mem _ hw)) hd (hK _ _ _ _ h p l e s m args below meth c G cI cJ ad H locs ls hAt hP hS hl)
theorem me_x_ldc_w {y pc : Nat} {L : List (Option Value)} {st : List Value} {ω : Om} {P : Option Value → Om → Prop} {K : me_K} (hK : ∀ pc L st ω, K pc L st ω → me_W y pc L st ω P) {i : Nat} {z : Int} (hd : decode (me_mb y) pc = .ok (.ldc_w i, 3)) (hw : Cond.constant (me_mn y).cls i (Int32.ofInt z) ∈ me_GT) (h : K (pc + 3) L (.int (Int32.ofInt z) :: st) ω) : me_W y pc L st ω P := by
  intro p l e s m args below meth c G cI cJ ad H locs ls hAt hP hS hl
  obtain ⟨hx, hb, hr, hml, hown, hts, hlk, hE⟩ := id hAt
  exact lv_ldcw hx hb hown (hts _ (List.mem_cons_of_mem _ hw)) hd (hK _ _ _ _ h p l e s m args below meth c G cI cJ ad H locs ls hAt hP hS hl)
theorem me_x_ldc2_w {y pc : Nat} {L : List (Option Value)} {st : List Value} {ω : Om} {P : Option Value → Om → Prop} {K : me_K} (hK : ∀ pc L st ω, K pc L st ω → me_W y pc L st ω P) {i : Nat} {z : Int} (hd : decode (me_mb y) pc = .ok (.ldc2_w i, 3)) (hw : Cond.constantLong (me_mn y).cls i (Int64.ofInt z) ∈ me_GT) (h : K (pc + 3) L (.long (Int64.ofInt z) :: st) ω) : me_W y pc L st ω P := by
  intro p l e s m args below meth c G cI cJ ad H locs ls hAt hP hS hl
  obtain ⟨hx, hb, hr, hml, hown, hts, hlk, hE⟩ := id hAt
  exact lv_ldc2 hx hb hown (hts _ (List.mem_cons_of_mem _ hw)) hd (hK _ _ _ _ h p l e s m args below meth c G cI cJ ad H locs ls hAt hP hS hl)
theorem me_x_iadd {y pc : Nat} {L : List (Option Value)} {st : List Value} {ω : Om} {P : Option Value → Om → Prop} {K : me_K} (hK : ∀ pc L st ω, K pc L st ω → me_W y pc L st ω P) (hd : decode (me_mb y) pc = .ok (.iadd, 1)) (h : me_i2 st fun a b r => K (pc + 1) L (.int (a + b) :: r) ω) : me_W y pc L st ω P := by
  unfold me_i2 at h
  split at h
  next b a r =>
    intro p l e s m args below meth c G cI cJ ad H locs ls hAt hP hS hl
    obtain ⟨hx, hb, hr, hml, hown, hts, hlk, hE⟩ := id hAt
    exact lv_iadd hx hb hd (hK _ _ _ _ h p l e s m args below meth c G cI cJ ad H locs ls hAt hP hS hl)
  next => exact h.elim
theorem me_x_isub {y pc : Nat} {L : List (Option Value)} {st : List Value} {ω : Om} {P : Option Value → Om → Prop} {K : me_K} (hK : ∀ pc L st ω, K pc L st ω → me_W y pc L st ω P) (hd : decode (me_mb y) pc = .ok (.isub, 1)) (h : me_i2 st fun a b r => K (pc + 1) L (.int (a - b) :: r) ω) : me_W y pc L st ω P := by
  unfold me_i2 at h
  split at h
  next b a r =>
    intro p l e s m args below meth c G cI cJ ad H locs ls hAt hP hS hl
    obtain ⟨hx, hb, hr, hml, hown, hts, hlk, hE⟩ := id hAt
    exact lv_isub hx hb hd (hK _ _ _ _ h p l e s m args below meth c G cI cJ ad H locs ls hAt hP hS hl)
  next => exact h.elim
theorem me_x_imul {y pc : Nat} {L : List (Option Value)} {st : List Value} {ω : Om} {P : Option Value → Om → Prop} {K : me_K} (hK : ∀ pc L st ω, K pc L st ω → me_W y pc L st ω P) (hd : decode (me_mb y) pc = .ok (.imul, 1)) (h : me_i2 st fun a b r => K (pc + 1) L (.int (a * b) :: r) ω) : me_W y pc L st ω P := by
  unfold me_i2 at h
  split at h
  next b a r =>
    intro p l e s m args below meth c G cI cJ ad H locs ls hAt hP hS hl
    obtain ⟨hx, hb, hr, hml, hown, hts, hlk, hE⟩ := id hAt
    exact lv_imul hx hb hd (hK _ _ _ _ h p l e s m args below meth c G cI cJ ad H locs ls hAt hP hS hl)
  next => exact h.elim
theorem me_x_iand {y pc : Nat} {L : List (Option Value)} {st : List Value} {ω : Om} {P : Option Value → Om → Prop} {K : me_K} (hK : ∀ pc L st ω, K pc L st ω → me_W y pc L st ω P) (hd : decode (me_mb y) pc = .ok (.iand, 1)) (h : me_i2 st fun a b r => K (pc + 1) L (.int (a &&& b) :: r) ω) : me_W y pc L st ω P := by
  unfold me_i2 at h
  split at h
  next b a r =>
    intro p l e s m args below meth c G cI cJ ad H locs ls hAt hP hS hl
    obtain ⟨hx, hb, hr, hml, hown, hts, hlk, hE⟩ := id hAt
    exact lv_iand hx hb hd (hK _ _ _ _ h p l e s m args below meth c G cI cJ ad H locs ls hAt hP hS hl)
  next => exact h.elim
theorem me_x_ior {y pc : Nat} {L : List (Option Value)} {st : List Value} {ω : Om} {P : Option Value → Om → Prop} {K : me_K} (hK : ∀ pc L st ω, K pc L st ω → me_W y pc L st ω P) (hd : decode (me_mb y) pc = .ok (.ior, 1)) (h : me_i2 st fun a b r => K (pc + 1) L (.int (a ||| b) :: r) ω) : me_W y pc L st ω P := by
  unfold me_i2 at h
  split at h
  next b a r =>
    intro p l e s m args below meth c G cI cJ ad H locs ls hAt hP hS hl
    obtain ⟨hx, hb, hr, hml, hown, hts, hlk, hE⟩ := id hAt
    exact lv_ior hx hb hd (hK _ _ _ _ h p l e s m args below meth c G cI cJ ad H locs ls hAt hP hS hl)
  next => exact h.elim
theorem me_x_ixor {y pc : Nat} {L : List (Option Value)} {st : List Value} {ω : Om} {P : Option Value → Om → Prop} {K : me_K} (hK : ∀ pc L st ω, K pc L st ω → me_W y pc L st ω P) (hd : decode (me_mb y) pc = .ok (.ixor, 1)) (h : me_i2 st fun a b r => K (pc + 1) L (.int (a ^^^ b) :: r) ω) : me_W y pc L st ω P := by
  unfold me_i2 at h
  split at h
  next b a r =>
    intro p l e s m args below meth c G cI cJ ad H locs ls hAt hP hS hl
    obtain ⟨hx, hb, hr, hml, hown, hts, hlk, hE⟩ := id hAt
    exact lv_ixor hx hb hd (hK _ _ _ _ h p l e s m args below meth c G cI cJ ad H locs ls hAt hP hS hl)
  next => exact h.elim
theorem me_x_ishl {y pc : Nat} {L : List (Option Value)} {st : List Value} {ω : Om} {P : Option Value → Om → Prop} {K : me_K} (hK : ∀ pc L st ω, K pc L st ω → me_W y pc L st ω P) (hd : decode (me_mb y) pc = .ok (.ishl, 1)) (h : me_i2 st fun a b r => K (pc + 1) L (.int (a <<< (b &&& 31)) :: r) ω) : me_W y pc L st ω P := by
  unfold me_i2 at h
  split at h
  next b a r =>
    intro p l e s m args below meth c G cI cJ ad H locs ls hAt hP hS hl
    obtain ⟨hx, hb, hr, hml, hown, hts, hlk, hE⟩ := id hAt
    exact lv_ishl hx hb hd (hK _ _ _ _ h p l e s m args below meth c G cI cJ ad H locs ls hAt hP hS hl)
  next => exact h.elim
theorem me_x_ishr {y pc : Nat} {L : List (Option Value)} {st : List Value} {ω : Om} {P : Option Value → Om → Prop} {K : me_K} (hK : ∀ pc L st ω, K pc L st ω → me_W y pc L st ω P) (hd : decode (me_mb y) pc = .ok (.ishr, 1)) (h : me_i2 st fun a b r => K (pc + 1) L (.int (a >>> (b &&& 31)) :: r) ω) : me_W y pc L st ω P := by
  unfold me_i2 at h
  split at h
  next b a r =>
    intro p l e s m args below meth c G cI cJ ad H locs ls hAt hP hS hl
    obtain ⟨hx, hb, hr, hml, hown, hts, hlk, hE⟩ := id hAt
    exact lv_ishr hx hb hd (hK _ _ _ _ h p l e s m args below meth c G cI cJ ad H locs ls hAt hP hS hl)
  next => exact h.elim
theorem me_x_iushr {y pc : Nat} {L : List (Option Value)} {st : List Value} {ω : Om} {P : Option Value → Om → Prop} {K : me_K} (hK : ∀ pc L st ω, K pc L st ω → me_W y pc L st ω P) (hd : decode (me_mb y) pc = .ok (.iushr, 1)) (h : me_i2 st fun a b r => K (pc + 1) L (.int ((a.toUInt32 >>> (b.toUInt32 &&& Int32.toUInt32 31)).toInt32) :: r) ω) : me_W y pc L st ω P := by
  unfold me_i2 at h
  split at h
  next b a r =>
    intro p l e s m args below meth c G cI cJ ad H locs ls hAt hP hS hl
    obtain ⟨hx, hb, hr, hml, hown, hts, hlk, hE⟩ := id hAt
    exact lv_iushr hx hb hd rfl (hK _ _ _ _ h p l e s m args below meth c G cI cJ ad H locs ls hAt hP hS hl)
  next => exact h.elim
theorem me_x_idiv {y pc : Nat} {L : List (Option Value)} {st : List Value} {ω : Om} {P : Option Value → Om → Prop} {K : me_K} (hK : ∀ pc L st ω, K pc L st ω → me_W y pc L st ω P) (hd : decode (me_mb y) pc = .ok (.idiv, 1)) (h : me_i2 st fun a b r => ¬ b = 0 ∧ K (pc + 1) L (.int (a / b) :: r) ω) : me_W y pc L st ω P := by
  unfold me_i2 at h
  split at h
  next b a r =>
    intro p l e s m args below meth c G cI cJ ad H locs ls hAt hP hS hl
    obtain ⟨hx, hb, hr, hml, hown, hts, hlk, hE⟩ := id hAt
    exact lv_idiv hx hb hd h.1 (hK _ _ _ _ h.2 p l e s m args below meth c G cI cJ ad H locs ls hAt hP hS hl)
  next => exact h.elim
theorem me_x_irem {y pc : Nat} {L : List (Option Value)} {st : List Value} {ω : Om} {P : Option Value → Om → Prop} {K : me_K} (hK : ∀ pc L st ω, K pc L st ω → me_W y pc L st ω P) (hd : decode (me_mb y) pc = .ok (.irem, 1)) (h : me_i2 st fun a b r => ¬ b = 0 ∧ K (pc + 1) L (.int (a - a / b * b) :: r) ω) : me_W y pc L st ω P := by
  unfold me_i2 at h
  split at h
  next b a r =>
    intro p l e s m args below meth c G cI cJ ad H locs ls hAt hP hS hl
    obtain ⟨hx, hb, hr, hml, hown, hts, hlk, hE⟩ := id hAt
    exact lv_irem hx hb hd h.1 (hK _ _ _ _ h.2 p l e s m args below meth c G cI cJ ad H locs ls hAt hP hS hl)
  next => exact h.elim
theorem me_x_ladd {y pc : Nat} {L : List (Option Value)} {st : List Value} {ω : Om} {P : Option Value → Om → Prop} {K : me_K} (hK : ∀ pc L st ω, K pc L st ω → me_W y pc L st ω P) (hd : decode (me_mb y) pc = .ok (.ladd, 1)) (h : me_j2 st fun a b r => K (pc + 1) L (.long (a + b) :: r) ω) : me_W y pc L st ω P := by
  unfold me_j2 at h
  split at h
  next b a r =>
    intro p l e s m args below meth c G cI cJ ad H locs ls hAt hP hS hl
    obtain ⟨hx, hb, hr, hml, hown, hts, hlk, hE⟩ := id hAt
    exact lv_ladd hx hb hd (hK _ _ _ _ h p l e s m args below meth c G cI cJ ad H locs ls hAt hP hS hl)
  next => exact h.elim
theorem me_x_lsub {y pc : Nat} {L : List (Option Value)} {st : List Value} {ω : Om} {P : Option Value → Om → Prop} {K : me_K} (hK : ∀ pc L st ω, K pc L st ω → me_W y pc L st ω P) (hd : decode (me_mb y) pc = .ok (.lsub, 1)) (h : me_j2 st fun a b r => K (pc + 1) L (.long (a - b) :: r) ω) : me_W y pc L st ω P := by
  unfold me_j2 at h
  split at h
  next b a r =>
    intro p l e s m args below meth c G cI cJ ad H locs ls hAt hP hS hl
    obtain ⟨hx, hb, hr, hml, hown, hts, hlk, hE⟩ := id hAt
    exact lv_lsub hx hb hd (hK _ _ _ _ h p l e s m args below meth c G cI cJ ad H locs ls hAt hP hS hl)
  next => exact h.elim
theorem me_x_lmul {y pc : Nat} {L : List (Option Value)} {st : List Value} {ω : Om} {P : Option Value → Om → Prop} {K : me_K} (hK : ∀ pc L st ω, K pc L st ω → me_W y pc L st ω P) (hd : decode (me_mb y) pc = .ok (.lmul, 1)) (h : me_j2 st fun a b r => K (pc + 1) L (.long (a * b) :: r) ω) : me_W y pc L st ω P := by
  unfold me_j2 at h
  split at h
  next b a r =>
    intro p l e s m args below meth c G cI cJ ad H locs ls hAt hP hS hl
    obtain ⟨hx, hb, hr, hml, hown, hts, hlk, hE⟩ := id hAt
    exact lv_lmul hx hb hd (hK _ _ _ _ h p l e s m args below meth c G cI cJ ad H locs ls hAt hP hS hl)
  next => exact h.elim
theorem me_x_land {y pc : Nat} {L : List (Option Value)} {st : List Value} {ω : Om} {P : Option Value → Om → Prop} {K : me_K} (hK : ∀ pc L st ω, K pc L st ω → me_W y pc L st ω P) (hd : decode (me_mb y) pc = .ok (.land, 1)) (h : me_j2 st fun a b r => K (pc + 1) L (.long (a &&& b) :: r) ω) : me_W y pc L st ω P := by
  unfold me_j2 at h
  split at h
  next b a r =>
    intro p l e s m args below meth c G cI cJ ad H locs ls hAt hP hS hl
    obtain ⟨hx, hb, hr, hml, hown, hts, hlk, hE⟩ := id hAt
    exact lv_land hx hb hd (hK _ _ _ _ h p l e s m args below meth c G cI cJ ad H locs ls hAt hP hS hl)
  next => exact h.elim
theorem me_x_ldiv {y pc : Nat} {L : List (Option Value)} {st : List Value} {ω : Om} {P : Option Value → Om → Prop} {K : me_K} (hK : ∀ pc L st ω, K pc L st ω → me_W y pc L st ω P) (hd : decode (me_mb y) pc = .ok (.ldiv, 1)) (h : me_j2 st fun a b r => ¬ b = 0 ∧ K (pc + 1) L (.long (a / b) :: r) ω) : me_W y pc L st ω P := by
  unfold me_j2 at h
  split at h
  next b a r =>
    intro p l e s m args below meth c G cI cJ ad H locs ls hAt hP hS hl
    obtain ⟨hx, hb, hr, hml, hown, hts, hlk, hE⟩ := id hAt
    exact lv_ldiv hx hb hd h.1 (hK _ _ _ _ h.2 p l e s m args below meth c G cI cJ ad H locs ls hAt hP hS hl)
  next => exact h.elim
theorem me_x_lrem {y pc : Nat} {L : List (Option Value)} {st : List Value} {ω : Om} {P : Option Value → Om → Prop} {K : me_K} (hK : ∀ pc L st ω, K pc L st ω → me_W y pc L st ω P) (hd : decode (me_mb y) pc = .ok (.lrem, 1)) (h : me_j2 st fun a b r => ¬ b = 0 ∧ K (pc + 1) L (.long (a - a / b * b) :: r) ω) : me_W y pc L st ω P := by
  unfold me_j2 at h
  split at h
  next b a r =>
    intro p l e s m args below meth c G cI cJ ad H locs ls hAt hP hS hl
    obtain ⟨hx, hb, hr, hml, hown, hts, hlk, hE⟩ := id hAt
    exact lv_lrem hx hb hd h.1 (hK _ _ _ _ h.2 p l e s m args below meth c G cI cJ ad H locs ls hAt hP hS hl)
  next => exact h.elim
theorem me_x_lneg {y pc : Nat} {L : List (Option Value)} {st : List Value} {ω : Om} {P : Option Value → Om → Prop} {K : me_K} (hK : ∀ pc L st ω, K pc L st ω → me_W y pc L st ω P) (hd : decode (me_mb y) pc = .ok (.lneg, 1)) (h : me_j1 st fun a r => K (pc + 1) L (.long (-a) :: r) ω) : me_W y pc L st ω P := by
  unfold me_j1 at h
  split at h
  next a r =>
    intro p l e s m args below meth c G cI cJ ad H locs ls hAt hP hS hl
    obtain ⟨hx, hb, hr, hml, hown, hts, hlk, hE⟩ := id hAt
    exact lv_lneg hx hb hd (hK _ _ _ _ h p l e s m args below meth c G cI cJ ad H locs ls hAt hP hS hl)
  next => exact h.elim
theorem me_x_lcmp {y pc : Nat} {L : List (Option Value)} {st : List Value} {ω : Om} {P : Option Value → Om → Prop} {K : me_K} (hK : ∀ pc L st ω, K pc L st ω → me_W y pc L st ω P) (hd : decode (me_mb y) pc = .ok (.lcmp, 1)) (h : me_j2 st fun a b r => K (pc + 1) L (.int (lg_cmp a b) :: r) ω) : me_W y pc L st ω P := by
  unfold me_j2 at h
  split at h
  next b a r =>
    intro p l e s m args below meth c G cI cJ ad H locs ls hAt hP hS hl
    obtain ⟨hx, hb, hr, hml, hown, hts, hlk, hE⟩ := id hAt
    exact W.lcmp hx hb hd (hK _ _ _ _ h p l e s m args below meth c G cI cJ ad H locs ls hAt hP hS hl)
  next => exact h.elim
theorem me_x_lushr {y pc : Nat} {L : List (Option Value)} {st : List Value} {ω : Om} {P : Option Value → Om → Prop} {K : me_K} (hK : ∀ pc L st ω, K pc L st ω → me_W y pc L st ω P) (hd : decode (me_mb y) pc = .ok (.lushr, 1)) (h : me_ji st fun a b r => K (pc + 1) L (.long ((a.toUInt64 >>> (b.toInt64.toUInt64 &&& Int64.toUInt64 63)).toInt64) :: r) ω) : me_W y pc L st ω P := by
  unfold me_ji at h
  split at h
  next b a r =>
    intro p l e s m args below meth c G cI cJ ad H locs ls hAt hP hS hl
    obtain ⟨hx, hb, hr, hml, hown, hts, hlk, hE⟩ := id hAt
    exact lv_lushr hx hb hd rfl (hK _ _ _ _ h p l e s m args below meth c G cI cJ ad H locs ls hAt hP hS hl)
  next => exact h.elim
theorem me_x_i2l {y pc : Nat} {L : List (Option Value)} {st : List Value} {ω : Om} {P : Option Value → Om → Prop} {K : me_K} (hK : ∀ pc L st ω, K pc L st ω → me_W y pc L st ω P) (hd : decode (me_mb y) pc = .ok (.i2l, 1)) (h : me_i1 st fun a r => K (pc + 1) L (.long a.toInt64 :: r) ω) : me_W y pc L st ω P := by
  unfold me_i1 at h
  split at h
  next a r =>
    intro p l e s m args below meth c G cI cJ ad H locs ls hAt hP hS hl
    obtain ⟨hx, hb, hr, hml, hown, hts, hlk, hE⟩ := id hAt
    exact lv_i2l hx hb hd rfl (hK _ _ _ _ h p l e s m args below meth c G cI cJ ad H locs ls hAt hP hS hl)
  next => exact h.elim
theorem me_x_l2i {y pc : Nat} {L : List (Option Value)} {st : List Value} {ω : Om} {P : Option Value → Om → Prop} {K : me_K} (hK : ∀ pc L st ω, K pc L st ω → me_W y pc L st ω P) (hd : decode (me_mb y) pc = .ok (.l2i, 1)) (h : me_j1 st fun a r => K (pc + 1) L (.int a.toInt32 :: r) ω) : me_W y pc L st ω P := by
  unfold me_j1 at h
  split at h
  next a r =>
    intro p l e s m args below meth c G cI cJ ad H locs ls hAt hP hS hl
    obtain ⟨hx, hb, hr, hml, hown, hts, hlk, hE⟩ := id hAt
    exact lv_l2i hx hb hd rfl (hK _ _ _ _ h p l e s m args below meth c G cI cJ ad H locs ls hAt hP hS hl)
  next => exact h.elim
theorem me_x_dup {y pc : Nat} {L : List (Option Value)} {st : List Value} {ω : Om} {P : Option Value → Om → Prop} {K : me_K} (hK : ∀ pc L st ω, K pc L st ω → me_W y pc L st ω P) (hd : decode (me_mb y) pc = .ok (.dup, 1)) (h : me_du st fun r => K (pc + 1) L r ω) : me_W y pc L st ω P := by
  unfold me_du at h
  split at h
  next v r =>
    intro p l e s m args below meth c G cI cJ ad H locs ls hAt hP hS hl
    obtain ⟨hx, hb, hr, hml, hown, hts, hlk, hE⟩ := id hAt
    split at h
    next hc => exact lv_dup hx hb hd (by rw [me_rn_cat]; exact eq_of_beq hc) (hK _ _ _ _ h p l e s m args below meth c G cI cJ ad H locs ls hAt hP hS hl)
    next => exact h.elim
  next => exact h.elim
theorem me_x_dup2 {y pc : Nat} {L : List (Option Value)} {st : List Value} {ω : Om} {P : Option Value → Om → Prop} {K : me_K} (hK : ∀ pc L st ω, K pc L st ω → me_W y pc L st ω P) (hd : decode (me_mb y) pc = .ok (.dup2, 1)) (h : me_d2 st fun r => K (pc + 1) L r ω) : me_W y pc L st ω P := by
  unfold me_d2 at h
  split at h
  next v w r =>
    intro p l e s m args below meth c G cI cJ ad H locs ls hAt hP hS hl
    obtain ⟨hx, hb, hr, hml, hown, hts, hlk, hE⟩ := id hAt
    split at h
    next hc =>
      simp only [Bool.and_eq_true] at hc
      exact lv_dup2_11 hx hb hd (by rw [me_rn_cat]; exact eq_of_beq hc.1) (by rw [me_rn_cat]; exact eq_of_beq hc.2) (hK _ _ _ _ h p l e s m args below meth c G cI cJ ad H locs ls hAt hP hS hl)
    next => exact h.elim
  next => exact h.elim
theorem me_x_pop2 {y pc : Nat} {L : List (Option Value)} {st : List Value} {ω : Om} {P : Option Value → Om → Prop} {K : me_K} (hK : ∀ pc L st ω, K pc L st ω → me_W y pc L st ω P) (hd : decode (me_mb y) pc = .ok (.pop2, 1)) (h : me_p2 st fun r => K (pc + 1) L r ω) : me_W y pc L st ω P := by
  unfold me_p2 at h
  split at h
  next v r =>
    intro p l e s m args below meth c G cI cJ ad H locs ls hAt hP hS hl
    obtain ⟨hx, hb, hr, hml, hown, hts, hlk, hE⟩ := id hAt
    split at h
    next hc => exact lv_pop2_2 hx hb hd (by rw [me_rn_cat]; exact eq_of_beq hc) (hK _ _ _ _ h p l e s m args below meth c G cI cJ ad H locs ls hAt hP hS hl)
    next => exact h.elim
  next => exact h.elim
theorem me_tg_ok {pc : Nat} {o : Int} (h : 0 ≤ (pc : Int) + o) : (pc : Int) + o = ((me_tg pc o : Nat) : Int) := by
  unfold me_tg
  omega
theorem me_x_goto {y pc : Nat} {L : List (Option Value)} {st : List Value} {ω : Om} {P : Option Value → Om → Prop} {K : me_K} (hK : ∀ pc L st ω, K pc L st ω → me_W y pc L st ω P) {o : Int} (hd : decode (me_mb y) pc = .ok (.goto o, 3)) (ht : 0 ≤ (pc : Int) + o) (h : K (me_tg pc o) L st ω) : me_W y pc L st ω P := by
  intro p l e s m args below meth c G cI cJ ad H locs ls hAt hP hS hl
  obtain ⟨hx, hb, hr, hml, hown, hts, hlk, hE⟩ := id hAt
  exact lv_goto hx hb hd (me_tg_ok ht) (hK _ _ _ _ h p l e s m args below meth c G cI cJ ad H locs ls hAt hP hS hl)
theorem me_x_if_eq {y pc : Nat} {L : List (Option Value)} {st : List Value} {ω : Om} {P : Option Value → Om → Prop} {K : me_K} (hK : ∀ pc L st ω, K pc L st ω → me_W y pc L st ω P) {o : Int} (hd : decode (me_mb y) pc = .ok (.ifCond .eq o, 3)) (ht : 0 ≤ (pc : Int) + o) (h : me_i1 st fun a r => me_br (a = 0) (K (me_tg pc o) L r ω) (K (pc + 3) L r ω)) : me_W y pc L st ω P := by
  unfold me_i1 at h
  split at h
  next a r =>
    intro p l e s m args below meth c G cI cJ ad H locs ls hAt hP hS hl
    obtain ⟨hx, hb, hr, hml, hown, hts, hlk, hE⟩ := id hAt
    exact lv_if_eq hx hb hd (me_tg_ok ht) (fun q => hK _ _ _ _ (h.1 q) p l e s m args below meth c G cI cJ ad H locs ls hAt hP hS hl) (fun q => hK _ _ _ _ (h.2 q) p l e s m args below meth c G cI cJ ad H locs ls hAt hP hS hl)
  next => exact h.elim
theorem me_x_if_ne {y pc : Nat} {L : List (Option Value)} {st : List Value} {ω : Om} {P : Option Value → Om → Prop} {K : me_K} (hK : ∀ pc L st ω, K pc L st ω → me_W y pc L st ω P) {o : Int} (hd : decode (me_mb y) pc = .ok (.ifCond .ne o, 3)) (ht : 0 ≤ (pc : Int) + o) (h : me_i1 st fun a r => me_br (a = 0) (K (pc + 3) L r ω) (K (me_tg pc o) L r ω)) : me_W y pc L st ω P := by
  unfold me_i1 at h
  split at h
  next a r =>
    intro p l e s m args below meth c G cI cJ ad H locs ls hAt hP hS hl
    obtain ⟨hx, hb, hr, hml, hown, hts, hlk, hE⟩ := id hAt
    exact lv_if_ne hx hb hd (me_tg_ok ht) (fun q => hK _ _ _ _ (h.2 q) p l e s m args below meth c G cI cJ ad H locs ls hAt hP hS hl) (fun q => hK _ _ _ _ (h.1 q) p l e s m args below meth c G cI cJ ad H locs ls hAt hP hS hl)
  next => exact h.elim
theorem me_x_if_lt {y pc : Nat} {L : List (Option Value)} {st : List Value} {ω : Om} {P : Option Value → Om → Prop} {K : me_K} (hK : ∀ pc L st ω, K pc L st ω → me_W y pc L st ω P) {o : Int} (hd : decode (me_mb y) pc = .ok (.ifCond .lt o, 3)) (ht : 0 ≤ (pc : Int) + o) (h : me_i1 st fun a r => me_br (a < 0) (K (me_tg pc o) L r ω) (K (pc + 3) L r ω)) : me_W y pc L st ω P := by
  unfold me_i1 at h
  split at h
  next a r =>
    intro p l e s m args below meth c G cI cJ ad H locs ls hAt hP hS hl
    obtain ⟨hx, hb, hr, hml, hown, hts, hlk, hE⟩ := id hAt
    exact lv_if_lt hx hb hd (me_tg_ok ht) (fun q => hK _ _ _ _ (h.1 q) p l e s m args below meth c G cI cJ ad H locs ls hAt hP hS hl) (fun q => hK _ _ _ _ (h.2 q) p l e s m args below meth c G cI cJ ad H locs ls hAt hP hS hl)
  next => exact h.elim
theorem me_x_if_ge {y pc : Nat} {L : List (Option Value)} {st : List Value} {ω : Om} {P : Option Value → Om → Prop} {K : me_K} (hK : ∀ pc L st ω, K pc L st ω → me_W y pc L st ω P) {o : Int} (hd : decode (me_mb y) pc = .ok (.ifCond .ge o, 3)) (ht : 0 ≤ (pc : Int) + o) (h : me_i1 st fun a r => me_br (0 ≤ a) (K (me_tg pc o) L r ω) (K (pc + 3) L r ω)) : me_W y pc L st ω P := by
  unfold me_i1 at h
  split at h
  next a r =>
    intro p l e s m args below meth c G cI cJ ad H locs ls hAt hP hS hl
    obtain ⟨hx, hb, hr, hml, hown, hts, hlk, hE⟩ := id hAt
    exact lv_if_ge hx hb hd (me_tg_ok ht) (fun q => hK _ _ _ _ (h.1 q) p l e s m args below meth c G cI cJ ad H locs ls hAt hP hS hl) (fun q => hK _ _ _ _ (h.2 q) p l e s m args below meth c G cI cJ ad H locs ls hAt hP hS hl)
  next => exact h.elim
theorem me_x_if_gt {y pc : Nat} {L : List (Option Value)} {st : List Value} {ω : Om} {P : Option Value → Om → Prop} {K : me_K} (hK : ∀ pc L st ω, K pc L st ω → me_W y pc L st ω P) {o : Int} (hd : decode (me_mb y) pc = .ok (.ifCond .gt o, 3)) (ht : 0 ≤ (pc : Int) + o) (h : me_i1 st fun a r => me_br (0 < a) (K (me_tg pc o) L r ω) (K (pc + 3) L r ω)) : me_W y pc L st ω P := by
  unfold me_i1 at h
  split at h
  next a r =>
    intro p l e s m args below meth c G cI cJ ad H locs ls hAt hP hS hl
    obtain ⟨hx, hb, hr, hml, hown, hts, hlk, hE⟩ := id hAt
    exact lv_if_gt hx hb hd (me_tg_ok ht) (fun q => hK _ _ _ _ (h.1 q) p l e s m args below meth c G cI cJ ad H locs ls hAt hP hS hl) (fun q => hK _ _ _ _ (h.2 q) p l e s m args below meth c G cI cJ ad H locs ls hAt hP hS hl)
  next => exact h.elim
theorem me_x_if_le {y pc : Nat} {L : List (Option Value)} {st : List Value} {ω : Om} {P : Option Value → Om → Prop} {K : me_K} (hK : ∀ pc L st ω, K pc L st ω → me_W y pc L st ω P) {o : Int} (hd : decode (me_mb y) pc = .ok (.ifCond .le o, 3)) (ht : 0 ≤ (pc : Int) + o) (h : me_i1 st fun a r => me_br (a ≤ 0) (K (me_tg pc o) L r ω) (K (pc + 3) L r ω)) : me_W y pc L st ω P := by
  unfold me_i1 at h
  split at h
  next a r =>
    intro p l e s m args below meth c G cI cJ ad H locs ls hAt hP hS hl
    obtain ⟨hx, hb, hr, hml, hown, hts, hlk, hE⟩ := id hAt
    exact lv_if_le hx hb hd (me_tg_ok ht) (fun q => hK _ _ _ _ (h.1 q) p l e s m args below meth c G cI cJ ad H locs ls hAt hP hS hl) (fun q => hK _ _ _ _ (h.2 q) p l e s m args below meth c G cI cJ ad H locs ls hAt hP hS hl)
  next => exact h.elim
theorem me_x_icmp_eq {y pc : Nat} {L : List (Option Value)} {st : List Value} {ω : Om} {P : Option Value → Om → Prop} {K : me_K} (hK : ∀ pc L st ω, K pc L st ω → me_W y pc L st ω P) {o : Int} (hd : decode (me_mb y) pc = .ok (.if_icmp .eq o, 3)) (ht : 0 ≤ (pc : Int) + o) (h : me_i2 st fun a b r => me_br (a = b) (K (me_tg pc o) L r ω) (K (pc + 3) L r ω)) : me_W y pc L st ω P := by
  unfold me_i2 at h
  split at h
  next b a r =>
    intro p l e s m args below meth c G cI cJ ad H locs ls hAt hP hS hl
    obtain ⟨hx, hb, hr, hml, hown, hts, hlk, hE⟩ := id hAt
    exact lv_icmp_eq hx hb hd (me_tg_ok ht) (fun q => hK _ _ _ _ (h.1 q) p l e s m args below meth c G cI cJ ad H locs ls hAt hP hS hl) (fun q => hK _ _ _ _ (h.2 q) p l e s m args below meth c G cI cJ ad H locs ls hAt hP hS hl)
  next => exact h.elim
theorem me_x_icmp_ne {y pc : Nat} {L : List (Option Value)} {st : List Value} {ω : Om} {P : Option Value → Om → Prop} {K : me_K} (hK : ∀ pc L st ω, K pc L st ω → me_W y pc L st ω P) {o : Int} (hd : decode (me_mb y) pc = .ok (.if_icmp .ne o, 3)) (ht : 0 ≤ (pc : Int) + o) (h : me_i2 st fun a b r => me_br (a = b) (K (pc + 3) L r ω) (K (me_tg pc o) L r ω)) : me_W y pc L st ω P := by
  unfold me_i2 at h
  split at h
  next b a r =>
    intro p l e s m args below meth c G cI cJ ad H locs ls hAt hP hS hl
    obtain ⟨hx, hb, hr, hml, hown, hts, hlk, hE⟩ := id hAt
    exact lv_icmp_ne hx hb hd (me_tg_ok ht) (fun q => hK _ _ _ _ (h.2 q) p l e s m args below meth c G cI cJ ad H locs ls hAt hP hS hl) (fun q => hK _ _ _ _ (h.1 q) p l e s m args below meth c G cI cJ ad H locs ls hAt hP hS hl)
  next => exact h.elim
theorem me_x_icmp_lt {y pc : Nat} {L : List (Option Value)} {st : List Value} {ω : Om} {P : Option Value → Om → Prop} {K : me_K} (hK : ∀ pc L st ω, K pc L st ω → me_W y pc L st ω P) {o : Int} (hd : decode (me_mb y) pc = .ok (.if_icmp .lt o, 3)) (ht : 0 ≤ (pc : Int) + o) (h : me_i2 st fun a b r => me_br (a < b) (K (me_tg pc o) L r ω) (K (pc + 3) L r ω)) : me_W y pc L st ω P := by
  unfold me_i2 at h
  split at h
  next b a r =>
    intro p l e s m args below meth c G cI cJ ad H locs ls hAt hP hS hl
    obtain ⟨hx, hb, hr, hml, hown, hts, hlk, hE⟩ := id hAt
    exact lv_icmp_lt hx hb hd (me_tg_ok ht) (fun q => hK _ _ _ _ (h.1 q) p l e s m args below meth c G cI cJ ad H locs ls hAt hP hS hl) (fun q => hK _ _ _ _ (h.2 q) p l e s m args below meth c G cI cJ ad H locs ls hAt hP hS hl)
  next => exact h.elim
theorem me_x_icmp_ge {y pc : Nat} {L : List (Option Value)} {st : List Value} {ω : Om} {P : Option Value → Om → Prop} {K : me_K} (hK : ∀ pc L st ω, K pc L st ω → me_W y pc L st ω P) {o : Int} (hd : decode (me_mb y) pc = .ok (.if_icmp .ge o, 3)) (ht : 0 ≤ (pc : Int) + o) (h : me_i2 st fun a b r => me_br (b ≤ a) (K (me_tg pc o) L r ω) (K (pc + 3) L r ω)) : me_W y pc L st ω P := by
  unfold me_i2 at h
  split at h
  next b a r =>
    intro p l e s m args below meth c G cI cJ ad H locs ls hAt hP hS hl
    obtain ⟨hx, hb, hr, hml, hown, hts, hlk, hE⟩ := id hAt
    exact lv_icmp_ge hx hb hd (me_tg_ok ht) (fun q => hK _ _ _ _ (h.1 q) p l e s m args below meth c G cI cJ ad H locs ls hAt hP hS hl) (fun q => hK _ _ _ _ (h.2 q) p l e s m args below meth c G cI cJ ad H locs ls hAt hP hS hl)
  next => exact h.elim
theorem me_x_icmp_gt {y pc : Nat} {L : List (Option Value)} {st : List Value} {ω : Om} {P : Option Value → Om → Prop} {K : me_K} (hK : ∀ pc L st ω, K pc L st ω → me_W y pc L st ω P) {o : Int} (hd : decode (me_mb y) pc = .ok (.if_icmp .gt o, 3)) (ht : 0 ≤ (pc : Int) + o) (h : me_i2 st fun a b r => me_br (b < a) (K (me_tg pc o) L r ω) (K (pc + 3) L r ω)) : me_W y pc L st ω P := by
  unfold me_i2 at h
  split at h
  next b a r =>
    intro p l e s m args below meth c G cI cJ ad H locs ls hAt hP hS hl
    obtain ⟨hx, hb, hr, hml, hown, hts, hlk, hE⟩ := id hAt
    exact lv_icmp_gt hx hb hd (me_tg_ok ht) (fun q => hK _ _ _ _ (h.1 q) p l e s m args below meth c G cI cJ ad H locs ls hAt hP hS hl) (fun q => hK _ _ _ _ (h.2 q) p l e s m args below meth c G cI cJ ad H locs ls hAt hP hS hl)
  next => exact h.elim
theorem me_x_icmp_le {y pc : Nat} {L : List (Option Value)} {st : List Value} {ω : Om} {P : Option Value → Om → Prop} {K : me_K} (hK : ∀ pc L st ω, K pc L st ω → me_W y pc L st ω P) {o : Int} (hd : decode (me_mb y) pc = .ok (.if_icmp .le o, 3)) (ht : 0 ≤ (pc : Int) + o) (h : me_i2 st fun a b r => me_br (a ≤ b) (K (me_tg pc o) L r ω) (K (pc + 3) L r ω)) : me_W y pc L st ω P := by
  unfold me_i2 at h
  split at h
  next b a r =>
    intro p l e s m args below meth c G cI cJ ad H locs ls hAt hP hS hl
    obtain ⟨hx, hb, hr, hml, hown, hts, hlk, hE⟩ := id hAt
    exact lv_icmp_le hx hb hd (me_tg_ok ht) (fun q => hK _ _ _ _ (h.1 q) p l e s m args below meth c G cI cJ ad H locs ls hAt hP hS hl) (fun q => hK _ _ _ _ (h.2 q) p l e s m args below meth c G cI cJ ad H locs ls hAt hP hS hl)
  next => exact h.elim
