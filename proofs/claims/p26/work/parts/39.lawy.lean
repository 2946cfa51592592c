/-- the addresses of the law's world: the 46 cells from base on, the two rows of constants elsewhere -/
def lw_ad (base t10 t5 : Nat) : Nat → Nat := fun i => if i < 46 then base + i else if i = 46 then t10 else t5
def me_mi {α β : Type} (f : Nat → α → β) : Nat → List α → List β
  | _, [] => []
  | i, x :: t => f i x :: me_mi f (i + 1) t
theorem me_mi_get {α β : Type} (f : Nat → α → β) : ∀ (l : List α) (i j : Nat), (me_mi f i l)[j]? = l[j]?.map (f (i + j))
  | [], _, _ => by simp [me_mi]
  | x :: t, i, 0 => by simp [me_mi]
  | x :: t, i, j + 1 => by
    rw [me_mi, List.getElem?_cons_succ, List.getElem?_cons_succ, me_mi_get f t (i + 1) j, show i + 1 + j = i + (j + 1) by omega]
theorem me_mi_eq {α β : Type} (f : Nat → α → β) (l : List α) : l.mapIdx f = me_mi f 0 l := by
  refine List.ext_getElem? fun j => ?_
  rw [me_mi_get, List.getElem?_mapIdx, Nat.zero_add]
theorem me_ce_mi {cI cJ : ClassId} {ad : Nat → Nat} {fi : Nat → Int32} {fl : Nat → Int64} {c : Nat} {ks : List Nat} (h : c < 12) : me_ce cI cJ ad fi fl (c, ks) = .inr (c, me_mi (me_fv ad fi fl) 0 ks) := by
  rw [me_ce_ob h, me_mi_eq]
theorem al_me {cI cJ : ClassId} {base t10 t5 : Nat} : al_cc cI cJ base (al_X ++ al_Mo) = me_cc cI cJ (lw_ad base t10 t5) om0 := by
  have key : ∀ i, i < 46 → ∃ e q, (al_X ++ al_Mo)[i]? = some e ∧ me_lay[i]? = some q ∧ (base + i, al_c cI cJ base e) = (lw_ad base t10 t5 i, me_ce cI cJ (lw_ad base t10 t5) (om0.1 i) (om0.2 i) q) := by
    intro i hi
    match i, hi with
    | 0, _ => exact ⟨_, _, rfl, rfl, by rw [me_ce_mi (by decide)]; rfl⟩
    | 1, _ => exact ⟨_, _, rfl, rfl, by rw [me_ce_mi (by decide)]; rfl⟩
    | 2, _ => exact ⟨_, _, rfl, rfl, rfl⟩
    | 3, _ => exact ⟨_, _, rfl, rfl, by rw [me_ce_mi (by decide)]; rfl⟩
    | 4, _ => exact ⟨_, _, rfl, rfl, rfl⟩
    | 5, _ => exact ⟨_, _, rfl, rfl, by rw [me_ce_mi (by decide)]; rfl⟩
    | 6, _ => exact ⟨_, _, rfl, rfl, rfl⟩
    | 7, _ => exact ⟨_, _, rfl, rfl, by rw [me_ce_mi (by decide)]; rfl⟩
    | 8, _ => exact ⟨_, _, rfl, rfl, rfl⟩
    | 9, _ => exact ⟨_, _, rfl, rfl, by rw [me_ce_mi (by decide)]; rfl⟩
    | 10, _ => exact ⟨_, _, rfl, rfl, rfl⟩
    | 11, _ => exact ⟨_, _, rfl, rfl, by rw [me_ce_mi (by decide)]; rfl⟩
    | 12, _ => exact ⟨_, _, rfl, rfl, rfl⟩
    | 13, _ => exact ⟨_, _, rfl, rfl, rfl⟩
    | 14, _ => exact ⟨_, _, rfl, rfl, rfl⟩
    | 15, _ => exact ⟨_, _, rfl, rfl, rfl⟩
    | 16, _ => exact ⟨_, _, rfl, rfl, by rw [me_ce_mi (by decide)]; rfl⟩
    | 17, _ => exact ⟨_, _, rfl, rfl, by rw [me_ce_mi (by decide)]; rfl⟩
    | 18, _ => exact ⟨_, _, rfl, rfl, rfl⟩
    | 19, _ => exact ⟨_, _, rfl, rfl, rfl⟩
    | 20, _ => exact ⟨_, _, rfl, rfl, by rw [me_ce_mi (by decide)]; rfl⟩
    | 21, _ => exact ⟨_, _, rfl, rfl, rfl⟩
    | 22, _ => exact ⟨_, _, rfl, rfl, rfl⟩
    | 23, _ => exact ⟨_, _, rfl, rfl, rfl⟩
    | 24, _ => exact ⟨_, _, rfl, rfl, rfl⟩
    | 25, _ => exact ⟨_, _, rfl, rfl, by rw [me_ce_mi (by decide)]; rfl⟩
    | 26, _ => exact ⟨_, _, rfl, rfl, rfl⟩
    | 27, _ => exact ⟨_, _, rfl, rfl, by rw [me_ce_mi (by decide)]; rfl⟩
    | 28, _ => exact ⟨_, _, rfl, rfl, rfl⟩
    | 29, _ => exact ⟨_, _, rfl, rfl, by rw [me_ce_mi (by decide)]; rfl⟩
    | 30, _ => exact ⟨_, _, rfl, rfl, rfl⟩
    | 31, _ => exact ⟨_, _, rfl, rfl, rfl⟩
    | 32, _ => exact ⟨_, _, rfl, rfl, rfl⟩
    | 33, _ => exact ⟨_, _, rfl, rfl, rfl⟩
    | 34, _ => exact ⟨_, _, rfl, rfl, rfl⟩
    | 35, _ => exact ⟨_, _, rfl, rfl, rfl⟩
    | 36, _ => exact ⟨_, _, rfl, rfl, rfl⟩
    | 37, _ => exact ⟨_, _, rfl, rfl, rfl⟩
    | 38, _ => exact ⟨_, _, rfl, rfl, rfl⟩
    | 39, _ => exact ⟨_, _, rfl, rfl, rfl⟩
    | 40, _ => exact ⟨_, _, rfl, rfl, rfl⟩
    | 41, _ => exact ⟨_, _, rfl, rfl, rfl⟩
    | 42, _ => exact ⟨_, _, rfl, rfl, rfl⟩
    | 43, _ => exact ⟨_, _, rfl, rfl, rfl⟩
    | 44, _ => exact ⟨_, _, rfl, rfl, rfl⟩
    | 45, _ => exact ⟨_, _, rfl, rfl, rfl⟩
    | n + 46, h => exact absurd h (by omega)
  refine List.ext_getElem? fun i => ?_
  by_cases hi : i < 46
  · obtain ⟨e, q, h1, h2, h3⟩ := key i hi
    rw [al_at h1, me_cc_at h2, h3]
  · have l1 : (al_cc cI cJ base (al_X ++ al_Mo)).length = 46 := by rw [al_cc, List.length_mapIdx]; rfl
    have l2 : (me_cc cI cJ (lw_ad base t10 t5) om0).length = 46 := by rw [me_cc, List.length_mapIdx]; rfl
    rw [List.getElem?_eq_none (by omega), List.getElem?_eq_none (by omega)]
