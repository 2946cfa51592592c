def cd_0 : List me_E := [(0, .aload_n 0, 0, 0, 0, 0), (1, .invokespecial 3, 0, 9, 158, 0), (4, .aload_n 0, 0, 0, 0, 0), (5, .bipush 24, 0, 0, 0, 0), (7, .newarray .int, 0, 0, 0, 0), (9, .putfield 9, 0, 0, 159, 0), (12, .return_, 0, 0, 0, 0)]
def cd_4 : List me_E := [(0, .aload_n 0, 0, 0, 0, 0), (1, .invokespecial 3, 46, 0, 100, 0), (4, .aload_n 0, 0, 0, 0, 0), (5, .bipush 24, 0, 0, 0, 0), (7, .newarray .int, 0, 0, 0, 0), (9, .putfield 9, 1, 0, 104, 0), (12, .return_, 0, 0, 0, 0)]
def cd_13 : List me_E := [(0, .aload_n 0, 0, 0, 0, 0), (1, .invokespecial 3, 0, 9, 275, 0), (4, .aload_n 0, 0, 0, 0, 0), (5, .bipush 28, 0, 0, 0, 0), (7, .newarray .int, 0, 0, 0, 0), (9, .putfield 11, 2, 0, 276, 0), (12, .aload_n 0, 0, 0, 0, 0), (13, .bipush 28, 0, 0, 0, 0), (15, .newarray .int, 0, 0, 0, 0), (17, .putfield 15, 2, 1, 277, 0), (20, .aload_n 0, 0, 0, 0, 0), (21, .bipush 28, 0, 0, 0, 0), (23, .newarray .long, 0, 0, 0, 0), (25, .putfield 18, 2, 2, 278, 0), (28, .aload_n 0, 0, 0, 0, 0), (29, .bipush 7, 0, 0, 0, 0), (31, .newarray .int, 0, 0, 0, 0), (33, .putfield 22, 2, 3, 279, 0), (36, .return_, 0, 0, 0, 0)]
def cd_17 : List me_E := [(0, .aload_n 0, 0, 0, 0, 0), (1, .invokespecial 3, 0, 9, 190, 0), (4, .aload_n 0, 0, 0, 0, 0), (5, .bipush 7, 0, 0, 0, 0), (7, .newarray .int, 0, 0, 0, 0), (9, .putfield 9, 3, 0, 191, 0), (12, .aload_n 0, 0, 0, 0, 0), (13, .bipush 7, 0, 0, 0, 0), (15, .newarray .int, 0, 0, 0, 0), (17, .putfield 15, 3, 1, 192, 0), (20, .aload_n 0, 0, 0, 0, 0), (21, .bipush 28, 0, 0, 0, 0), (23, .newarray .int, 0, 0, 0, 0), (25, .putfield 18, 3, 2, 193, 0), (28, .aload_n 0, 0, 0, 0, 0), (29, .iconst 4, 0, 0, 0, 0), (30, .newarray .int, 0, 0, 0, 0), (32, .dup, 0, 0, 0, 0), (33, .iconst 0, 0, 0, 0, 0), (34, .bipush 50, 0, 0, 0, 0), (36, .iastore, 0, 0, 0, 0), (37, .dup, 0, 0, 0, 0), (38, .iconst 1, 0, 0, 0, 0), (39, .bipush 50, 0, 0, 0, 0), (41, .iastore, 0, 0, 0, 0), (42, .dup, 0, 0, 0, 0), (43, .iconst 2, 0, 0, 0, 0), (44, .bipush 50, 0, 0, 0, 0), (46, .iastore, 0, 0, 0, 0), (47, .dup, 0, 0, 0, 0), (48, .iconst 3, 0, 0, 0, 0), (49, .bipush 50, 0, 0, 0, 0), (51, .iastore, 0, 0, 0, 0), (52, .putfield 21, 3, 3, 195, 0), (55, .return_, 0, 0, 0, 0)]
def cd_36 : List me_E := [(0, .aload_n 0, 0, 0, 0, 0), (1, .invokespecial 3, 0, 9, 246, 0), (4, .aload_n 0, 0, 0, 0, 0), (5, .bipush 28, 0, 0, 0, 0), (7, .newarray .int, 0, 0, 0, 0), (9, .putfield 9, 4, 0, 247, 0), (12, .aload_n 0, 0, 0, 0, 0), (13, .iconst 4, 0, 0, 0, 0), (14, .newarray .int, 0, 0, 0, 0), (16, .putfield 15, 4, 1, 248, 0), (19, .aload_n 0, 0, 0, 0, 0), (20, .iconst (-1), 0, 0, 0, 0), (21, .putfield 18, 4, 2, 249, 0), (24, .return_, 0, 0, 0, 0)]
def cd_39 : List me_E := [(0, .aload_n 0, 0, 0, 0, 0), (1, .invokespecial 1, 0, 9, 219, 0), (4, .return_, 0, 0, 0, 0)]
def cd_42 : List me_E := [(0, .aload_n 0, 0, 0, 0, 0), (1, .invokespecial 1, 0, 9, 85, 0), (4, .aload_n 0, 0, 0, 0, 0), (5, .bipush 55, 0, 0, 0, 0), (7, .newarray .int, 0, 0, 0, 0), (9, .putfield 9, 6, 0, 86, 0), (12, .return_, 0, 0, 0, 0)]
def cd_46 : List me_E := [(0, .aload_n 0, 0, 0, 0, 0), (1, .invokespecial 1, 0, 9, 103, 0), (4, .return_, 0, 0, 0, 0)]
def cd_47 : List me_E := [(0, .aload_n 0, 0, 0, 0, 0), (1, .invokespecial 3, 0, 9, 172, 0), (4, .aload_n 0, 0, 0, 0, 0), (5, .bipush 7, 0, 0, 0, 0), (7, .newarray .int, 0, 0, 0, 0), (9, .putfield 9, 7, 0, 173, 0), (12, .return_, 0, 0, 0, 0)]
def cd_50 : List me_E := [(0, .aload_n 0, 0, 0, 0, 0), (1, .invokespecial 3, 46, 0, 130, 0), (4, .aload_n 0, 0, 0, 0, 0), (5, .bipush 7, 0, 0, 0, 0), (7, .newarray .int, 0, 0, 0, 0), (9, .putfield 9, 8, 0, 131, 0), (12, .return_, 0, 0, 0, 0)]
def cd_57 : List me_E := [(0, .aload_n 0, 0, 0, 0, 0), (1, .invokespecial 3, 0, 9, 302, 0), (4, .aload_n 0, 0, 0, 0, 0), (5, .sipush 896, 0, 0, 0, 0), (8, .newarray .long, 0, 0, 0, 0), (10, .putfield 9, 9, 0, 303, 0), (13, .return_, 0, 0, 0, 0)]
def cd_63 : List me_E := [(0, .aload_n 0, 0, 0, 0, 0), (1, .invokespecial 3, 0, 9, 77, 0), (4, .aload_n 0, 0, 0, 0, 0), (5, .new 9, 6, 81, 80, 0), (8, .dup, 0, 0, 0, 0), (9, .invokespecial 11, 42, 0, 82, 0), (12, .putfield 12, 10, 0, 307, 0), (15, .aload_n 0, 0, 0, 0, 0), (16, .new 16, 1, 96, 95, 0), (19, .dup, 0, 0, 0, 0), (20, .invokespecial 18, 4, 0, 97, 0), (23, .putfield 19, 10, 1, 308, 0), (26, .aload_n 0, 0, 0, 0, 0), (27, .new 23, 8, 126, 125, 0), (30, .dup, 0, 0, 0, 0), (31, .invokespecial 25, 50, 0, 127, 0), (34, .putfield 26, 10, 2, 309, 0), (37, .aload_n 0, 0, 0, 0, 0), (38, .new 30, 0, 154, 153, 0), (41, .dup, 0, 0, 0, 0), (42, .invokespecial 32, 0, 0, 155, 0), (45, .putfield 33, 10, 3, 310, 0), (48, .aload_n 0, 0, 0, 0, 0), (49, .new 37, 7, 168, 167, 0), (52, .dup, 0, 0, 0, 0), (53, .invokespecial 39, 47, 0, 169, 0), (56, .putfield 40, 10, 4, 311, 0), (59, .aload_n 0, 0, 0, 0, 0), (60, .new 44, 3, 186, 185, 0), (63, .dup, 0, 0, 0, 0), (64, .invokespecial 46, 17, 0, 187, 0), (67, .putfield 47, 10, 5, 312, 0), (70, .aload_n 0, 0, 0, 0, 0), (71, .new 51, 5, 215, 214, 0), (74, .dup, 0, 0, 0, 0), (75, .invokespecial 53, 39, 0, 216, 0), (78, .putfield 54, 10, 6, 313, 0), (81, .aload_n 0, 0, 0, 0, 0), (82, .new 58, 4, 242, 241, 0), (85, .dup, 0, 0, 0, 0), (86, .invokespecial 60, 36, 0, 243, 0), (89, .putfield 61, 10, 7, 314, 0), (92, .aload_n 0, 0, 0, 0, 0), (93, .new 65, 2, 271, 270, 0), (96, .dup, 0, 0, 0, 0), (97, .invokespecial 67, 13, 0, 272, 0), (100, .putfield 68, 10, 8, 315, 0), (103, .aload_n 0, 0, 0, 0, 0), (104, .new 72, 9, 298, 297, 0), (107, .dup, 0, 0, 0, 0), (108, .invokespecial 74, 57, 0, 299, 0), (111, .putfield 75, 10, 9, 316, 0), (114, .aload_n 0, 0, 0, 0, 0), (115, .new 72, 9, 298, 297, 0), (118, .dup, 0, 0, 0, 0), (119, .invokespecial 74, 57, 0, 299, 0), (122, .putfield 79, 10, 10, 317, 0), (125, .return_, 0, 0, 0, 0)]
def cd_122 : List me_E := [(0, .aload_n 0, 0, 0, 0, 0), (1, .invokespecial 1, 0, 9, 833, 0), (4, .aload_n 0, 0, 0, 0, 0), (5, .bipush 55, 0, 0, 0, 0), (7, .newarray .int, 0, 0, 0, 0), (9, .putfield 7, 11, 0, 834, 0), (12, .aload_n 0, 0, 0, 0, 0), (13, .bipush 24, 0, 0, 0, 0), (15, .newarray .int, 0, 0, 0, 0), (17, .putfield 13, 11, 2, 836, 0), (20, .aload_n 0, 0, 0, 0, 0), (21, .bipush 24, 0, 0, 0, 0), (23, .newarray .int, 0, 0, 0, 0), (25, .putfield 16, 11, 4, 838, 0), (28, .aload_n 0, 0, 0, 0, 0), (29, .bipush 7, 0, 0, 0, 0), (31, .newarray .int, 0, 0, 0, 0), (33, .putfield 19, 11, 11, 845, 0), (36, .aload_n 0, 0, 0, 0, 0), (37, .bipush 7, 0, 0, 0, 0), (39, .newarray .int, 0, 0, 0, 0), (41, .putfield 22, 11, 14, 848, 0), (44, .aload_n 0, 0, 0, 0, 0), (45, .bipush 7, 0, 0, 0, 0), (47, .newarray .int, 0, 0, 0, 0), (49, .putfield 25, 11, 20, 854, 0), (52, .aload_n 0, 0, 0, 0, 0), (53, .bipush 7, 0, 0, 0, 0), (55, .newarray .int, 0, 0, 0, 0), (57, .putfield 28, 11, 21, 855, 0), (60, .aload_n 0, 0, 0, 0, 0), (61, .bipush 28, 0, 0, 0, 0), (63, .newarray .int, 0, 0, 0, 0), (65, .putfield 31, 11, 22, 856, 0), (68, .aload_n 0, 0, 0, 0, 0), (69, .iconst 4, 0, 0, 0, 0), (70, .newarray .int, 0, 0, 0, 0), (72, .putfield 34, 11, 23, 857, 0), (75, .aload_n 0, 0, 0, 0, 0), (76, .sipush 896, 0, 0, 0, 0), (79, .newarray .long, 0, 0, 0, 0), (81, .putfield 37, 11, 24, 858, 0), (84, .aload_n 0, 0, 0, 0, 0), (85, .bipush 7, 0, 0, 0, 0), (87, .newarray .long, 0, 0, 0, 0), (89, .putfield 41, 11, 25, 859, 0), (92, .aload_n 0, 0, 0, 0, 0), (93, .sipush 896, 0, 0, 0, 0), (96, .newarray .int, 0, 0, 0, 0), (98, .putfield 44, 11, 26, 860, 0), (101, .aload_n 0, 0, 0, 0, 0), (102, .sipush 896, 0, 0, 0, 0), (105, .newarray .long, 0, 0, 0, 0), (107, .putfield 47, 11, 27, 861, 0), (110, .aload_n 0, 0, 0, 0, 0), (111, .bipush 6, 0, 0, 0, 0), (113, .newarray .int, 0, 0, 0, 0), (115, .putfield 50, 11, 28, 862, 0), (118, .aload_n 0, 0, 0, 0, 0), (119, .iconst 4, 0, 0, 0, 0), (120, .newarray .int, 0, 0, 0, 0), (122, .putfield 53, 11, 35, 869, 0), (125, .aload_n 0, 0, 0, 0, 0), (126, .bipush 28, 0, 0, 0, 0), (128, .newarray .int, 0, 0, 0, 0), (130, .putfield 56, 11, 36, 870, 0), (133, .aload_n 0, 0, 0, 0, 0), (134, .iconst (-1), 0, 0, 0, 0), (135, .putfield 59, 11, 30, 864, 0), (138, .iconst 0, 0, 0, 0, 0), (139, .istore_n 1, 0, 0, 0, 0), (140, .iload_n 1, 0, 0, 0, 0), (141, .iconst 4, 0, 0, 0, 0), (142, .if_icmp .ge 17, 0, 0, 0, 0), (145, .aload_n 0, 0, 0, 0, 0), (146, .getfield 34, 11, 23, 857, 0), (149, .iload_n 1, 0, 0, 0, 0), (150, .bipush 50, 0, 0, 0, 0), (152, .iastore, 0, 0, 0, 0), (153, .iinc 1 1, 0, 0, 0, 0), (156, .goto (-16), 0, 0, 0, 0), (159, .return_, 0, 0, 0, 0)]
def al_tb : List (Nat × List me_E) := [(0, cd_0), (4, cd_4), (13, cd_13), (17, cd_17), (36, cd_36), (39, cd_39), (42, cd_42), (46, cd_46), (47, cd_47), (50, cd_50), (57, cd_57), (63, cd_63), (122, cd_122)]
def al_cd (y : Nat) : List me_E := match al_tb.find? (fun q => q.1 == y) with
  | some q => q.2
  | none => []
def al_m (y : Nat) : Nat × Nat := if y == 0 then (1, 24) else if y == 4 then (1, 24) else if y == 13 then (4, 91) else if y == 17 then (4, 46) else if y == 36 then (2, 32) else if y == 39 then (0, 0) else if y == 42 then (1, 55) else if y == 46 then (0, 0) else if y == 47 then (1, 7) else if y == 50 then (1, 7) else if y == 57 then (1, 896) else if y == 63 then (28, 2122) else if y == 122 then (16, 2896) else (0, 0)
def al_f (y : Nat) : Nat × Nat := if y == 0 then (1, 20) else if y == 4 then (2, 40) else if y == 13 then (1, 20) else if y == 17 then (1, 20) else if y == 36 then (1, 20) else if y == 39 then (1, 20) else if y == 42 then (1, 20) else if y == 46 then (1, 20) else if y == 47 then (1, 20) else if y == 50 then (2, 40) else if y == 57 then (1, 20) else if y == 63 then (3, 60) else if y == 122 then (1, 20) else (0, 0)
def al_df (a : Nat) : List Value := (([[.null, .int 0], [.null, .int 0, .int 0, .int 0, .int 0, .int 0], [.null, .null, .null, .null, .int 0, .int 0], [.null, .null, .null, .null, .int 0, .int 0], [.null, .null, .int 0, .int 0, .int 0, .int 0, .int 0], [.int 0, .int 0, .int 0, .int 0], [.null, .int 0], [.null, .int 0, .int 0], [.null, .int 0, .int 0, .int 0, .int 0, .int 0], [.null], [.null, .null, .null, .null, .null, .null, .null, .null, .null, .null, .null, .int 0], [.null, .int 0, .null, .int 0, .null, .int 0, .int 0, .int 0, .int 0, .int 0, .int 0, .null, .int 0, .int 0, .null, .int 0, .int 0, .int 0, .int 0, .int 0, .null, .null, .null, .null, .null, .null, .null, .null, .null, .int 0, .int 0, .int 0, .int 0, .int 0, .int 0, .null, .null, .long 0]] : List (List Value))[a]?).getD []
/-! THE CONSTRUCTORS: a machine of the same kind that makes cells one behind the other -/
abbrev al_C : Type := (Nat × List Value) ⊕ (Bool × Nat × (Nat → Int32))
def al_c (cI cJ : ClassId) (base : Nat) (e : al_C) : va_E := match e with
  | .inl o => .inr (o.1, o.2.map (me_rn (fun i => base + i)))
  | .inr (false, N, f) => .inl (cI, N, .inl f)
  | .inr (true, N, _) => .inl (cJ, N, .inr (.inl (fun _ => 0)))
def al_cc (cI cJ : ClassId) (base : Nat) (ws : List al_C) : va_W := ws.mapIdx (fun i e => (base + i, al_c cI cJ base e))
theorem al_at {cI cJ : ClassId} {base : Nat} {ws : List al_C} {i : Nat} {e : al_C} (h : ws[i]? = some e) : (al_cc cI cJ base ws)[i]? = some (base + i, al_c cI cJ base e) := by simp [al_cc, List.getElem?_mapIdx, h]
theorem al_inv {cI cJ : ClassId} {base : Nat} {ws : List al_C} {i : Nat} {x : Nat × va_E} (h : (al_cc cI cJ base ws)[i]? = some x) : i < ws.length ∧ x.1 = base + i := by
  simp only [al_cc, List.getElem?_mapIdx, Option.map_eq_some_iff] at h
  obtain ⟨q, h1, rfl⟩ := h
  exact ⟨(List.getElem?_eq_some_iff.mp h1).1, rfl⟩
theorem al_D {cI cJ : ClassId} {base : Nat} {ws : List al_C} : va_D (fun q => base ≤ q) (al_cc cI cJ base ws) := by
  refine ⟨fun i j p q hi hj hpq => ?_, fun k q hk => ?_⟩
  · have a := (al_inv hi).2
    have b := (al_inv hj).2
    omega
  · have a := (al_inv hk).2
    show base ≤ q.1
    omega
theorem al_push {cI cJ : ClassId} {base : Nat} {ws : List al_C} {e : al_C} : al_cc cI cJ base (ws ++ [e]) = al_cc cI cJ base ws ++ [(base + ws.length, al_c cI cJ base e)] := by simp [al_cc, List.mapIdx_append]
theorem al_set {cI cJ : ClassId} {base : Nat} {ws : List al_C} {e : al_C} {i : Nat} : (al_cc cI cJ base ws).set i (base + i, al_c cI cJ base e) = al_cc cI cJ base (ws.set i e) := by
  refine List.ext_getElem? fun j => ?_
  simp only [al_cc, List.getElem?_set, List.getElem?_mapIdx, List.length_mapIdx]
  by_cases hj : i = j
  · subst hj
    rw [if_pos rfl, if_pos rfl]
    split <;> rfl
  · rw [if_neg hj, if_neg hj]
def al_sl (e : al_C) : Nat := match e with
  | .inl o => o.2.length
  | .inr q => q.2.1
def al_sz (ws : List al_C) : Nat := (ws.map al_sl).sum
theorem al_sz_push (ws : List al_C) (e : al_C) : al_sz (ws ++ [e]) = al_sz ws + al_sl e := by simp [al_sz]
theorem al_sz_set {ws : List al_C} {i : Nat} {e e' : al_C} (h : ws[i]? = some e) (hs : al_sl e' = al_sl e) : al_sz (ws.set i e') = al_sz ws := by
  unfold al_sz
  have : (ws.set i e').map al_sl = ws.map al_sl := by
    refine List.ext_getElem? fun j => ?_
    rw [List.getElem?_map, List.getElem?_map, List.getElem?_set]
    by_cases hj : i = j
    · subst hj
      rw [if_pos rfl, h, if_pos (List.getElem?_eq_some_iff.mp h).1, Option.map_some, Option.map_some, hs]
    · rw [if_neg hj]
  rw [this]
def al_rm (y : Nat) : Room := { frames := (al_f y).1, cells := (al_m y).1, slots := (al_m y).2, locals := (al_f y).2 }
def al_En (G : va_G) (cI cJ : ClassId) (U : State) : Prop := va_K G vwCl (me_ty cI cJ) U ∧ me_Nw U
def al_Pre (G : va_G) (cI cJ : ClassId) (base k : Nat) (ws : List al_C) : Array Value → State → Prop := fun v U => v = #[Value.ref (base + k)] ∧ U.heap.size = base + ws.length ∧ va_P G vwCl (al_cc cI cJ base ws) U.heap ∧ al_En G cI cJ U
def al_Post (G : va_G) (cI cJ : ClassId) (base : Nat) (ws : List al_C) : Array Value → State → Outcome → State → Prop := fun _ st o t => (o = .returned none ∧ t.heap.size = base + ws.length ∧ va_P G vwCl (al_cc cI cJ base ws) t.heap) ∧ va_F (fun q => base ≤ q) st t
def al_Ct (y k : Nat) (ws ws' : List al_C) : Prop := ∀ (l : Launch) (G : va_G) (cI cJ : ClassId) (base : Nat), Met l (me_mn y) (me_ws y) (al_rm y) (al_Pre G cI cJ base k ws) (al_Post G cI cJ base ws') (al_m y).1 (al_m y).2 (fun q => base ≤ q)
def al_run : Nat → Nat → Nat → Nat → Nat → List (Option Value) → List Value → List al_C → Option (List al_C)
  | 0, _, _, _, _, _, _, _ => none
  | n + 1, y, tl, ts, pc, L, st, ws => match me_at (al_cd y) pc with
    | none => none
    | some e => match e.2.1, st with
      | .aload_n i, st => (match L[i.val]? with
        | some (some (.ref k)) => al_run n y tl ts (pc + 1) L (.ref k :: st) ws
        | _ => none)
      | .iload_n i, st => (match L[i.val]? with
        | some (some (.int k)) => al_run n y tl ts (pc + 1) L (.int k :: st) ws
        | _ => none)
      | .istore_n i, .int v :: r => al_run n y tl ts (pc + 1) (me_s1 L i.val (.int v)) r ws
      | .iinc i z, st => (match L[i]? with
        | some (some (.int k)) => al_run n y tl ts (pc + 3) (me_s1 L i (.int (k + Int32.ofInt z))) st ws
        | _ => none)
      | .iconst z, st => al_run n y tl ts (pc + 1) L (.int (Int32.ofInt z) :: st) ws
      | .bipush z, st => al_run n y tl ts (pc + 2) L (.int ((Int8.ofInt z).toInt32) :: st) ws
      | .sipush z, st => al_run n y tl ts (pc + 3) L (.int ((Int16.ofInt z).toInt32) :: st) ws
      | .goto o, st => al_run n y tl ts (me_tg pc o) L st ws
      | .if_icmp .ge o, .int b :: .int a :: r => if b ≤ a then al_run n y tl ts (me_tg pc o) L r ws else al_run n y tl ts (pc + 3) L r ws
      | .dup, .ref k :: r => al_run n y tl ts (pc + 1) L (.ref k :: .ref k :: r) ws
      | .new _, st => if Nat.ble (ws.length + 1) tl && Nat.ble (al_sz ws + (al_df e.2.2.1).length) ts then al_run n y tl ts (pc + 3) L (.ref ws.length :: st) (ws ++ [.inl (e.2.2.1, al_df e.2.2.1)]) else none
      | .newarray .int, .int k :: r => if Nat.ble (ws.length + 1) tl && (Nat.ble (al_sz ws + k.toNatClampNeg) ts && (Nat.ble k.toNatClampNeg 1000 && !decide (k < 0))) then al_run n y tl ts (pc + 2) L (.ref ws.length :: r) (ws ++ [.inr (false, k.toNatClampNeg, fun _ => 0)]) else none
      | .newarray .long, .int k :: r => if Nat.ble (ws.length + 1) tl && (Nat.ble (al_sz ws + k.toNatClampNeg) ts && (Nat.ble k.toNatClampNeg 1000 && !decide (k < 0))) then al_run n y tl ts (pc + 2) L (.ref ws.length :: r) (ws ++ [.inr (true, k.toNatClampNeg, fun _ => 0)]) else none
      | .getfield _, .ref k :: r => (match ws[k]? with
        | some (.inl (ci, fs)) => if ci == e.2.2.1 then (match fs[e.2.2.2.1]? with
          | some (.ref q) => al_run n y tl ts (pc + 3) L (.ref q :: r) ws
          | _ => none) else none
        | _ => none)
      | .putfield _, .ref v :: .ref k :: r => (match ws[k]? with
        | some (.inl (ci, fs)) => if ci == e.2.2.1 && (Nat.ble (e.2.2.2.1 + 1) fs.length && (me_T e.2.2.1 e.2.2.2.1).2.2.2) then al_run n y tl ts (pc + 3) L r (ws.set k (.inl (ci, fs.set e.2.2.2.1 (.ref v)))) else none
        | _ => none)
      | .putfield _, .int v :: .ref k :: r => (match ws[k]? with
        | some (.inl (ci, fs)) => if ci == e.2.2.1 && (Nat.ble (e.2.2.2.1 + 1) fs.length && !(me_T e.2.2.1 e.2.2.2.1).2.2.2) then al_run n y tl ts (pc + 3) L r (ws.set k (.inl (ci, fs.set e.2.2.2.1 (.int v)))) else none
        | _ => none)
      | .iastore, .int x :: .int i :: .ref k :: r => (match ws[k]? with
        | some (.inr (false, N, f)) => if Nat.ble (i.toNatClampNeg + 1) N && !decide (i < 0) then al_run n y tl ts (pc + 1) L r (ws.set k (.inr (false, N, upd f i.toNatClampNeg x))) else none
        | _ => none)
      | .invokespecial _, .ref k :: r => if me_cat8 r then (if e.2.2.2.1 == 9 then al_run n y tl ts (pc + 3) L r ws else if Nat.ble (ws.length + (al_m e.2.2.1).1) tl && Nat.ble (al_sz ws + (al_m e.2.2.1).2) ts then (match al_run n e.2.2.1 (ws.length + (al_m e.2.2.1).1) (al_sz ws + (al_m e.2.2.1).2) 0 (me_en (me_mL e.2.2.1) [.ref k]) [] ws with
        | some ws1 => al_run n y tl ts (pc + 3) L r ws1
        | none => none) else none) else none
      | .return_, [] => if ws.length == tl && al_sz ws == ts then some ws else none
      | _, _ => none
def al_ln : Instr → Nat
  | .new _ | .invokespecial _ => 3
  | .newarray _ => 2
  | i => me_ln i
def al_dc (b : ByteArray) (pc : Nat) (i : Instr) : Bool := match decode b pc with
  | .ok (j, n) => decide (j = i) && n == al_ln i
  | _ => false
theorem al_dc_ok {b : ByteArray} {pc : Nat} {i : Instr} (h : al_dc b pc i = true) : decode b pc = .ok (i, al_ln i) := by
  unfold al_dc at h
  split at h
  next j n hd =>
    simp only [Bool.and_eq_true, decide_eq_true_eq, beq_iff_eq] at h
    obtain ⟨rfl, rfl⟩ := h
    exact hd
  next => cases h
def al_rmk (y z : Nat) : Bool := decide ((al_f z).1 + 1 ≤ (al_f y).1) && decide (8 + (me_mL z + 11) + (al_f z).2 ≤ (al_f y).2)
def al_ck (y : Nat) (e : me_E) : Bool := (me_mn y).name == "<init>" && al_dc (me_mb y) e.1 e.2.1 && (match e.2.1 with
  | .istore_n i => decide (i.val < me_mL y)
  | .iinc i _ => decide (i < me_mL y)
  | .if_icmp _ o => me_jp e.1 o
  | .goto o => me_jp e.1 o
  | .new i => decide (e.2.2.1 < 12) && me_wd e.2.2.2.2.1 (.classLink (me_mn y).cls i (me_T e.2.2.1 0).1) && me_wd e.2.2.2.1 (.instantiable (me_T e.2.2.1 0).1 (me_N e.2.2.1)) && decide ((vwCl[e.2.2.1]?).map (fun q => q.1) = some (me_T e.2.2.1 0).1)
  | .newarray .int => true
  | .newarray .long => true
  | .getfield i => decide (e.2.2.1 < 12) && decide (e.2.2.2.1 < me_N e.2.2.1) && me_wd e.2.2.2.2.1 (.fieldLink (me_mn y).cls i (me_T e.2.2.1 e.2.2.2.1).1 (me_T e.2.2.1 e.2.2.2.1).2.1 (me_T e.2.2.1 e.2.2.2.1).2.2.1)
  | .putfield i => decide (e.2.2.1 < 12) && decide (e.2.2.2.1 < me_N e.2.2.1) && me_wd e.2.2.2.2.1 (.fieldLink (me_mn y).cls i (me_T e.2.2.1 e.2.2.2.1).1 (me_T e.2.2.1 e.2.2.2.1).2.1 (me_T e.2.2.1 e.2.2.2.1).2.2.1)
      && (if (me_T e.2.2.1 e.2.2.2.1).2.2.2 then decide ((me_T e.2.2.1 e.2.2.2.1).1 = (me_mn y).cls) && (match parseFieldDescriptor (me_T e.2.2.1 e.2.2.2.1).2.2.1 with
        | some (.array _) => true
        | some (.object _) => true
        | _ => false) else decide ((me_T e.2.2.1 e.2.2.2.1).2.2.1 = "I"))
  | .invokespecial i => if e.2.2.2.1 == 9 then me_wd e.2.2.2.2.1 (.methodLink (me_mn y).cls i objectInit) && decide (1 ≤ (al_f y).1) && decide (20 ≤ (al_f y).2)
      else decide (e.2.2.1 < 185) && al_rmk y e.2.2.1 && decide (lw_tbl[e.2.2.2.2.1]? = some (.methodLinkNest (me_mn y).cls i (me_mn e.2.2.1) "WokenOnce")) && me_wd (me_mj e.2.2.1).2.2.2.1 (.instanceMethod (me_mn e.2.2.1)) && (me_mn e.2.2.1).name == "<init>" && decide (me_mp e.2.2.1 = 0) && decide (me_mr e.2.2.1 = none) && decide (1 ≤ me_mL e.2.2.1)
  | .return_ => decide (me_mr y = none)
  | _ => true)
theorem al_cks : al_tb.all (fun q => q.2.all (al_ck q.1)) = true := by decide +kernel
theorem al_ckd {y pc : Nat} {e : me_E} (h : me_at (al_cd y) pc = some e) : al_ck y e = true ∧ e.1 = pc := by
  obtain ⟨h1, h2⟩ := me_at_ok h
  refine ⟨?_, h2⟩
  unfold al_cd at h1
  split at h1
  next q hq =>
    have hm := List.mem_of_find?_eq_some hq
    have he : q.1 = y := by have := List.find?_some (p := fun q : Nat × List me_E => q.1 == y) hq; exact eq_of_beq this
    have := List.all_eq_true.mp (List.all_eq_true.mp al_cks q hm) e h1
    rwa [he] at this
  next => cases h1
theorem al_w_obj : Cond.instanceMethod objectInit ∈ me_GT ∧ Cond.code objectInit ⟨#[0xb1]⟩ 1 none ∈ me_GT ∧ Cond.arrayClass .int ∈ me_GT ∧ Cond.arrayClass .long ∈ me_GT ∧ (∀ q ∈ vwCl, Cond.initialized q.1 ∈ me_GT) := by decide +kernel
