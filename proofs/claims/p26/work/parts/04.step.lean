/-! ONE INSTRUCTION of the small machine, as what must hold before it -/
abbrev me_K : Type := Nat → List (Option Value) → List Value → Om → Prop
abbrev me_E : Type := Nat × Instr × Nat × Nat × Nat × Int
def me_CtI (z : Nat) (args : List Value) (ω : Om) (Q : Int32 → Om → Prop) : Prop := me_Ct z args ω (fun r ω' => ∃ v : Int32, r = some (.int v) ∧ Q v ω')
def me_CtJ (z : Nat) (args : List Value) (ω : Om) (Q : Int64 → Om → Prop) : Prop := me_Ct z args ω (fun r ω' => ∃ v : Int64, r = some (.long v) ∧ Q v ω')
def me_CtV (z : Nat) (args : List Value) (ω : Om) (Q : Om → Prop) : Prop := me_Ct z args ω (fun r ω' => r = none ∧ Q ω')
def me_li (L : List (Option Value)) (i : Nat) (k : Int32 → Prop) : Prop := match L[i]? with
  | some (some (.int v)) => k v
  | _ => False
def me_lj (L : List (Option Value)) (i : Nat) (k : Int64 → Prop) : Prop := match L[i]? with
  | some (some (.long v)) => k v
  | _ => False
def me_lr (L : List (Option Value)) (i : Nat) (k : Nat → Prop) : Prop := match L[i]? with
  | some (some (.ref v)) => k v
  | _ => False
def me_i1 (st : List Value) (k : Int32 → List Value → Prop) : Prop := match st with
  | .int a :: r => k a r
  | _ => False
def me_i2 (st : List Value) (k : Int32 → Int32 → List Value → Prop) : Prop := match st with
  | .int b :: .int a :: r => k a b r
  | _ => False
def me_j1 (st : List Value) (k : Int64 → List Value → Prop) : Prop := match st with
  | .long a :: r => k a r
  | _ => False
def me_j2 (st : List Value) (k : Int64 → Int64 → List Value → Prop) : Prop := match st with
  | .long b :: .long a :: r => k a b r
  | _ => False
def me_ji (st : List Value) (k : Int64 → Int32 → List Value → Prop) : Prop := match st with
  | .int b :: .long a :: r => k a b r
  | _ => False
def me_r1 (st : List Value) (k : Nat → List Value → Prop) : Prop := match st with
  | .ref a :: r => k a r
  | _ => False
def me_ir (st : List Value) (k : Int32 → Nat → List Value → Prop) : Prop := match st with
  | .int b :: .ref a :: r => k b a r
  | _ => False
/-- the list is laid out before it goes on -/
def me_fc : List (Option Value) → (List (Option Value) → Prop) → Prop
  | [], k => k []
  | x :: t, k => me_fc t (fun t' => k (x :: t'))
theorem me_fc_ok : ∀ {L : List (Option Value)} {k : List (Option Value) → Prop}, me_fc L k → k L
  | [], _, h => h
  | x :: t, k, h => me_fc_ok (L := t) (k := fun t' => k (x :: t')) h
def me_br (c t f : Prop) : Prop := (c → t) ∧ (¬ c → f)
def me_tg (pc : Nat) (off : Int) : Nat := ((pc : Int) + off).toNat
def me_sw (pc : Nat) (x : Int32) (d : Int) (k : Nat → Prop) : List (Int × Int) → Prop
  | [] => k (me_tg pc d)
  | (v, o) :: t => me_br (x = Int32.ofInt v) (k (me_tg pc o)) (me_sw pc x d k t)
def me_ps : Int → List Int → List (Int × Int)
  | _, [] => []
  | lo, o :: t => (lo, o) :: me_ps (lo + 1) t
/-- the class of a method among the worlds' classes -/
def me_cl (z : Nat) : Nat := if z < 4 then 0 else if z < 13 then 1 else if z < 17 then 2 else if z < 36 then 3 else if z < 39 then 4 else if z < 42 then 5 else if z < 46 then 6 else if z < 47 then 99 else if z < 50 then 7 else if z < 57 then 8 else if z < 63 then 9 else if z < 122 then 10 else if z < 184 then 11 else 99
def me_iscl (k c : Nat) : Bool := match me_lay[k]? with
  | some q => q.1 == c
  | none => false
def me_cat8 (r : List Value) : Bool := Nat.ble ((r.map fun v => v.category).sum) 8
/-- behind a call -/
def me_af (z : Nat) (args : List Value) (ω : Om) (pc : Nat) (L : List (Option Value)) (r : List Value) (K : me_K) : Prop := match me_mr z with
  | none => me_CtV z args ω (fun ω' => K (pc + 3) L r ω')
  | some .long => me_CtJ z args ω (fun v ω' => K (pc + 3) L (.long v :: r) ω')
  | some _ => me_CtI z args ω (fun v ω' => K (pc + 3) L (.int v :: r) ω')
def me_cs (z n : Nat) (st : List Value) (ω : Om) (pc : Nat) (L : List (Option Value)) (K : me_K) : Prop := if Nat.ble n st.length && me_cat8 (st.drop n) then me_af z (st.take n).reverse ω pc L (st.drop n) K else False
def me_cv (z n : Nat) (st : List Value) (ω : Om) (pc : Nat) (L : List (Option Value)) (K : me_K) : Prop := match st.drop n with
  | .ref k :: r => if Nat.ble n st.length && (me_cat8 r && me_iscl k (me_cl z)) then me_af z (.ref k :: (st.take n).reverse) ω pc L r K else False
  | _ => False
def me_cu (z1 z2 : Nat) (st : List Value) (ω : Om) (pc : Nat) (L : List (Option Value)) (K : me_K) : Prop := match st with
  | .int v :: .ref k :: r => if me_cat8 r && me_iscl k 1 then me_af z1 [.ref k, .int v] ω pc L r K else if me_cat8 r && me_iscl k 8 then me_af z2 [.ref k, .int v] ω pc L r K else False
  | _ => False
def me_cp (st : List Value) (ω : Om) (pc : Nat) (L : List (Option Value)) (K : me_K) : Prop := match st with
  | .int n :: .int dp :: .ref a1 :: .int sp :: .ref a0 :: r => match me_lay[a0]?, me_lay[a1]? with
    | some (100, N0 :: _), some (100, N1 :: _) => if me_cat8 r then (¬ sp < 0 ∧ ¬ dp < 0 ∧ ¬ n < 0 ∧ sp.toNatClampNeg + n.toNatClampNeg ≤ N0 ∧ dp.toNatClampNeg + n.toNatClampNeg ≤ N1) ∧ K (pc + 3) L r (ur ω a1 (va_cpy (ω.1 a0) (ω.1 a1) sp.toNatClampNeg dp.toNatClampNeg n.toNatClampNeg)) else False
    | _, _ => False
  | _ => False
def me_gf (i ci k : Nat) (ω : Om) (f : Value → Prop) : Prop := match me_lay[i]? with
  | some (c, ks) => if c == ci then (match ks[k]? with
    | some 0 => f (.int (ω.1 i k))
    | some 1 => f (.long (ω.2 i k))
    | some (n + 2) => f (.ref n)
    | none => False) else False
  | none => False
def me_pf (st : List Value) (ci k : Nat) (ω : Om) (f : List Value → Om → Prop) : Prop := match st with
  | .int v :: .ref i :: r => (match me_lay[i]? with
    | some (c, ks) => if c == ci && ks[k]? == some 0 then (if ci == 10 then (v = 0 ∨ v = 1) ∧ f r (ui ω i k v) else f r (ui ω i k v)) else False
    | none => False)
  | .long v :: .ref i :: r => (match me_lay[i]? with
    | some (c, ks) => if c == ci && ks[k]? == some 1 then f r (ul ω i k v) else False
    | none => False)
  | _ => False
def me_ial (i : Int32) (k : Nat) (ω : Om) (f : Int32 → Prop) : Prop := if k == 47 then vp_in i 7 ∧ f (Int32.ofNat (5 ^ i.toNatClampNeg)) else match me_lay[k]? with
  | some (100, N :: _) => vp_in i N ∧ f (ω.1 k i.toNatClampNeg)
  | _ => False
def me_lal (i : Int32) (k : Nat) (ω : Om) (f : Int64 → Prop) : Prop := if k == 46 then vp_in i 7 ∧ f (Int64.ofNat (10 ^ i.toNatClampNeg)) else match me_lay[k]? with
  | some (101, N :: _) => vp_in i N ∧ f (ω.2 k i.toNatClampNeg)
  | _ => False
def me_ias (st : List Value) (ω : Om) (f : List Value → Om → Prop) : Prop := match st with
  | .int x :: .int i :: .ref k :: r => (match me_lay[k]? with
    | some (100, N :: _) => vp_in i N ∧ f r (ui ω k i.toNatClampNeg x)
    | _ => False)
  | _ => False
def me_las (st : List Value) (ω : Om) (f : List Value → Om → Prop) : Prop := match st with
  | .long x :: .int i :: .ref k :: r => (match me_lay[k]? with
    | some (101, N :: _) => vp_in i N ∧ f r (ul ω k i.toNatClampNeg x)
    | _ => False)
  | _ => False
def me_du (st : List Value) (f : List Value → Prop) : Prop := match st with
  | v :: r => if v.category == 1 then f (v :: v :: r) else False
  | _ => False
def me_d2 (st : List Value) (f : List Value → Prop) : Prop := match st with
  | v :: w :: r => if v.category == 1 && w.category == 1 then f (v :: w :: v :: w :: r) else False
  | _ => False
def me_p2 (st : List Value) (f : List Value → Prop) : Prop := match st with
  | v :: r => if v.category == 2 then f r else False
  | _ => False
def me_ri (st : List Value) (b : Nat) (P : Option Value → Prop) : Prop := match st with
  | [.int v] => if b == 1 then (v = 0 ∨ v = 1) ∧ P (some (.int v)) else P (some (.int v))
  | _ => False
def me_rj (st : List Value) (P : Option Value → Prop) : Prop := match st with
  | [.long v] => P (some (.long v))
  | _ => False
def me_rv (st : List Value) (P : Option Value → Prop) : Prop := match st with
  | [] => P none
  | _ => False
def me_st (x : me_E) (pc : Nat) (L : List (Option Value)) (st : List Value) (ω : Om) (P : Option Value → Om → Prop) (K : me_K) : Prop := match x.2.1 with
  | .aload_n n => me_lr L n.val fun v => K (pc + 1) L (.ref v :: st) ω
  | .iload_n n => me_li L n.val fun v => K (pc + 1) L (.int v :: st) ω
  | .iload n => me_li L n fun v => K (pc + 2) L (.int v :: st) ω
  | .lload_n n => me_lj L n.val fun v => K (pc + 1) L (.long v :: st) ω
  | .lload n => me_lj L n fun v => K (pc + 2) L (.long v :: st) ω
  | .istore_n n => me_i1 st fun v r => me_fc (me_s1 L n.val (.int v)) fun L' => K (pc + 1) L' r ω
  | .istore n => me_i1 st fun v r => me_fc (me_s1 L n (.int v)) fun L' => K (pc + 2) L' r ω
  | .lstore_n n => me_j1 st fun v r => me_fc (me_s2 L n.val (.long v)) fun L' => K (pc + 1) L' r ω
  | .lstore n => me_j1 st fun v r => me_fc (me_s2 L n (.long v)) fun L' => K (pc + 2) L' r ω
  | .iinc n z => me_li L n fun v => me_fc (me_s1 L n (.int (v + Int32.ofInt z))) fun L' => K (pc + 3) L' st ω
  | .iconst z => K (pc + 1) L (.int (Int32.ofInt z) :: st) ω
  | .bipush z => K (pc + 2) L (.int ((Int8.ofInt z).toInt32) :: st) ω
  | .sipush z => K (pc + 3) L (.int ((Int16.ofInt z).toInt32) :: st) ω
  | .lconst n => K (pc + 1) L (.long (Int64.ofNat (n : Nat)) :: st) ω
  | .ldc _ => K (pc + 2) L (.int (Int32.ofInt x.2.2.2.2.2) :: st) ω
  | .ldc_w _ => K (pc + 3) L (.int (Int32.ofInt x.2.2.2.2.2) :: st) ω
  | .ldc2_w _ => K (pc + 3) L (.long (Int64.ofInt x.2.2.2.2.2) :: st) ω
  | .iadd => me_i2 st fun a b r => K (pc + 1) L (.int (a + b) :: r) ω
  | .isub => me_i2 st fun a b r => K (pc + 1) L (.int (a - b) :: r) ω
  | .imul => me_i2 st fun a b r => K (pc + 1) L (.int (a * b) :: r) ω
  | .iand => me_i2 st fun a b r => K (pc + 1) L (.int (a &&& b) :: r) ω
  | .ior => me_i2 st fun a b r => K (pc + 1) L (.int (a ||| b) :: r) ω
  | .ixor => me_i2 st fun a b r => K (pc + 1) L (.int (a ^^^ b) :: r) ω
  | .ishl => me_i2 st fun a b r => K (pc + 1) L (.int (a <<< (b &&& 31)) :: r) ω
  | .ishr => me_i2 st fun a b r => K (pc + 1) L (.int (a >>> (b &&& 31)) :: r) ω
  | .iushr => me_i2 st fun a b r => K (pc + 1) L (.int ((a.toUInt32 >>> (b.toUInt32 &&& Int32.toUInt32 31)).toInt32) :: r) ω
  | .idiv => me_i2 st fun a b r => ¬ b = 0 ∧ K (pc + 1) L (.int (a / b) :: r) ω
  | .irem => me_i2 st fun a b r => ¬ b = 0 ∧ K (pc + 1) L (.int (a - a / b * b) :: r) ω
  | .ladd => me_j2 st fun a b r => K (pc + 1) L (.long (a + b) :: r) ω
  | .lsub => me_j2 st fun a b r => K (pc + 1) L (.long (a - b) :: r) ω
  | .lmul => me_j2 st fun a b r => K (pc + 1) L (.long (a * b) :: r) ω
  | .land => me_j2 st fun a b r => K (pc + 1) L (.long (a &&& b) :: r) ω
  | .ldiv => me_j2 st fun a b r => ¬ b = 0 ∧ K (pc + 1) L (.long (a / b) :: r) ω
  | .lrem => me_j2 st fun a b r => ¬ b = 0 ∧ K (pc + 1) L (.long (a - a / b * b) :: r) ω
  | .lneg => me_j1 st fun a r => K (pc + 1) L (.long (-a) :: r) ω
  | .lcmp => me_j2 st fun a b r => K (pc + 1) L (.int (lg_cmp a b) :: r) ω
  | .lushr => me_ji st fun a b r => K (pc + 1) L (.long ((a.toUInt64 >>> (b.toInt64.toUInt64 &&& Int64.toUInt64 63)).toInt64) :: r) ω
  | .i2l => me_i1 st fun a r => K (pc + 1) L (.long a.toInt64 :: r) ω
  | .l2i => me_j1 st fun a r => K (pc + 1) L (.int a.toInt32 :: r) ω
  | .dup => me_du st fun r => K (pc + 1) L r ω
  | .dup2 => me_d2 st fun r => K (pc + 1) L r ω
  | .pop2 => me_p2 st fun r => K (pc + 1) L r ω
  | .goto o => K (me_tg pc o) L st ω
  | .ifCond .eq o => me_i1 st fun a r => me_br (a = 0) (K (me_tg pc o) L r ω) (K (pc + 3) L r ω)
  | .ifCond .ne o => me_i1 st fun a r => me_br (a = 0) (K (pc + 3) L r ω) (K (me_tg pc o) L r ω)
  | .ifCond .lt o => me_i1 st fun a r => me_br (a < 0) (K (me_tg pc o) L r ω) (K (pc + 3) L r ω)
  | .ifCond .ge o => me_i1 st fun a r => me_br (0 ≤ a) (K (me_tg pc o) L r ω) (K (pc + 3) L r ω)
  | .ifCond .gt o => me_i1 st fun a r => me_br (0 < a) (K (me_tg pc o) L r ω) (K (pc + 3) L r ω)
  | .ifCond .le o => me_i1 st fun a r => me_br (a ≤ 0) (K (me_tg pc o) L r ω) (K (pc + 3) L r ω)
  | .if_icmp .eq o => me_i2 st fun a b r => me_br (a = b) (K (me_tg pc o) L r ω) (K (pc + 3) L r ω)
  | .if_icmp .ne o => me_i2 st fun a b r => me_br (a = b) (K (pc + 3) L r ω) (K (me_tg pc o) L r ω)
  | .if_icmp .lt o => me_i2 st fun a b r => me_br (a < b) (K (me_tg pc o) L r ω) (K (pc + 3) L r ω)
  | .if_icmp .ge o => me_i2 st fun a b r => me_br (b ≤ a) (K (me_tg pc o) L r ω) (K (pc + 3) L r ω)
  | .if_icmp .gt o => me_i2 st fun a b r => me_br (b < a) (K (me_tg pc o) L r ω) (K (pc + 3) L r ω)
  | .if_icmp .le o => me_i2 st fun a b r => me_br (a ≤ b) (K (me_tg pc o) L r ω) (K (pc + 3) L r ω)
  | .tableswitch d lo _ offs => me_i1 st fun a r => me_sw pc a d (fun t => K t L r ω) (me_ps lo offs.toList)
  | .lookupswitch d ps => me_i1 st fun a r => me_sw pc a d (fun t => K t L r ω) ps.toList
  | .getfield _ => me_r1 st fun i r => me_gf i x.2.2.1 x.2.2.2.1 ω fun v => K (pc + 3) L (v :: r) ω
  | .putfield _ => me_pf st x.2.2.1 x.2.2.2.1 ω fun r ω' => K (pc + 3) L r ω'
  | .getstatic _ => K (pc + 3) L (.ref x.2.2.1 :: st) ω
  | .arraylength => me_r1 st fun i r => if i == 46 || i == 47 then K (pc + 1) L (.int 7 :: r) ω else False
  | .iaload => me_ir st fun i k r => me_ial i k ω fun v => K (pc + 1) L (.int v :: r) ω
  | .laload => me_ir st fun i k r => me_lal i k ω fun v => K (pc + 1) L (.long v :: r) ω
  | .iastore => me_ias st ω fun r ω' => K (pc + 1) L r ω'
  | .lastore => me_las st ω fun r ω' => K (pc + 1) L r ω'
  | .invokevirtual _ => if x.2.2.2.1 == 3 then me_cu x.2.2.1 x.2.2.2.2.2.toNat st ω pc L K else me_cv x.2.2.1 (me_mp x.2.2.1) st ω pc L K
  | .invokestatic _ => if x.2.2.2.1 == 4 then me_cp st ω pc L K else if x.2.2.2.1 == 5 then me_i2 st (fun a b r => if me_cat8 r then K (pc + 3) L (.int (if b < a then b else a) :: r) ω else False) else if x.2.2.2.1 == 6 then me_j2 st (fun a b r => if me_cat8 r then K (pc + 3) L (.long (if b < a then b else a) :: r) ω else False) else me_cs x.2.2.1 (me_mp x.2.2.1) st ω pc L K
  | .ireturn => me_ri st x.2.2.1 fun r => P r ω
  | .lreturn => me_rj st fun r => P r ω
  | .return_ => me_rv st fun r => P r ω
  | _ => False
/-- what the program checks once of each row of a method's code -/
def me_ln : Instr → Nat
  | .iload _ | .lload _ | .istore _ | .lstore _ | .bipush _ | .ldc _ => 2
  | .iinc _ _ | .sipush _ | .ldc_w _ | .ldc2_w _ | .goto _ | .ifCond _ _ | .if_icmp _ _ | .getfield _ | .putfield _ | .getstatic _ | .invokevirtual _ | .invokestatic _ => 3
  | _ => 1
def me_isw : Instr → Bool
  | .tableswitch _ _ _ _ | .lookupswitch _ _ => true
  | _ => false
def me_dc (b : ByteArray) (pc : Nat) (i : Instr) : Bool := match decode b pc with
  | .ok (j, n) => decide (j = i) && (n == me_ln i || me_isw i)
  | _ => false
def me_wd (j : Nat) (w : Cond) : Bool := decide (lw_tbl[j]? = some w) && goodWord w
def me_T (a b : Nat) : String × String × String × Bool := match vwCl[a]? with
  | some q => q.2.1 b
  | none => ("", "", "", false)
def me_N (a : Nat) : Nat := match vwCl[a]? with
  | some q => q.2.2
  | none => 0
def me_rmk (y z : Nat) : Bool := decide ((me_mf z).1 + 1 ≤ (me_mf y).1) && decide (8 + (me_mL z + 11) + (me_mf z).2 ≤ (me_mf y).2)
def me_fn (a b : Nat) : Bool := (me_T a b).2.2.2 == false && ((me_T a b).2.2.1 == (if a == 10 then "Z" else if a == 11 && b == 37 then "J" else "I"))
def me_vi (z : Nat) : Bool := me_wd (me_mj z).2.2.2.1 (.instanceMethod (me_mn z)) && me_wd (me_mj z).2.2.2.2 (.selects (me_mn z).cls (me_mn z) (me_mn z)) && decide ((vwCl[me_cl z]?).map (fun q => q.1) = some (me_mn z).cls)
def me_jp (pc : Nat) (o : Int) : Bool := decide (0 ≤ (pc : Int) + o)
def me_ck (y : Nat) (e : me_E) : Bool := me_dc (me_mb y) e.1 e.2.1 && (match e.2.1 with
  | .getfield i => decide (e.2.2.1 < 12) && decide (e.2.2.2.1 < me_N e.2.2.1) && me_wd e.2.2.2.2.1 (.fieldLink (me_mn y).cls i (me_T e.2.2.1 e.2.2.2.1).1 (me_T e.2.2.1 e.2.2.2.1).2.1 (me_T e.2.2.1 e.2.2.2.1).2.2.1)
  | .putfield i => decide (e.2.2.1 < 12) && decide (e.2.2.2.1 < me_N e.2.2.1) && me_fn e.2.2.1 e.2.2.2.1 && me_wd e.2.2.2.2.1 (.fieldLink (me_mn y).cls i (me_T e.2.2.1 e.2.2.2.1).1 (me_T e.2.2.1 e.2.2.2.1).2.1 (me_T e.2.2.1 e.2.2.2.1).2.2.1)
  | .getstatic i => (e.2.2.1 == 46 && me_wd e.2.2.2.2.1 (.fieldLink (me_mn y).cls i "WokenOnce" "POWERS_OF_TEN" "[J")) || (e.2.2.1 == 47 && me_wd e.2.2.2.2.1 (.fieldLink (me_mn y).cls i "WokenOnce" "POWERS_OF_FIVE" "[I"))
  | .ldc i => me_wd e.2.2.2.2.1 (.constant (me_mn y).cls i (Int32.ofInt e.2.2.2.2.2))
  | .ldc_w i => me_wd e.2.2.2.2.1 (.constant (me_mn y).cls i (Int32.ofInt e.2.2.2.2.2))
  | .ldc2_w i => me_wd e.2.2.2.2.1 (.constantLong (me_mn y).cls i (Int64.ofInt e.2.2.2.2.2))
  | .ifCond _ o => me_jp e.1 o
  | .if_icmp _ o => me_jp e.1 o
  | .goto o => me_jp e.1 o
  | .tableswitch d lo hi offs => me_jp e.1 d && offs.toList.all (me_jp e.1) && decide (hi = lo + offs.size - 1) && decide (-1000000 < lo) && decide (hi < 1000000) && decide (lo ≤ hi)
  | .lookupswitch d ps => me_jp e.1 d && ps.toList.all (fun q => me_jp e.1 q.2 && decide ((Int32.ofInt q.1).toInt = q.1)) && (ps.toList.zip (ps.toList.drop 1)).all (fun (a, next) => a.1 < next.1)
  | .istore i => decide (i < me_mL y)
  | .istore_n i => decide (i.val < me_mL y)
  | .iinc i _ => decide (i < me_mL y)
  | .lstore i => decide (i + 1 < me_mL y)
  | .lstore_n i => decide (i.val + 1 < me_mL y)
  | .invokevirtual i => if e.2.2.2.1 == 3 then me_wd e.2.2.2.2.1 (.methodLink (me_mn y).cls i ⟨"WokenOnce$Reader", "takes", "(I)Z"⟩) && (e.2.2.1 == 7 && (e.2.2.2.2.2.toNat == 52 && (me_rmk y 7 && me_rmk y 52)))
      else decide (e.2.2.1 < 185) && me_rmk y e.2.2.1 && me_wd e.2.2.2.2.1 (.methodLink (me_mn y).cls i (me_mn e.2.2.1)) && me_vi e.2.2.1
  | .invokestatic i => if e.2.2.2.1 == 4 then me_wd e.2.2.2.2.1 (.methodLink (me_mn y).cls i arraycopyName) && decide (1 ≤ (me_mf y).1) && decide (26 ≤ (me_mf y).2)
      else if e.2.2.2.1 == 5 then me_wd e.2.2.2.2.1 (.methodLink (me_mn y).cls i Lib.Math.min.name) && decide (1 ≤ (me_mf y).1) && decide (21 ≤ (me_mf y).2)
      else if e.2.2.2.1 == 6 then me_wd e.2.2.2.2.1 (.methodLink (me_mn y).cls i Lib.MathLoose.min_long.x) && decide (1 ≤ (me_mf y).1) && decide (23 ≤ (me_mf y).2)
      else decide (e.2.2.1 < 185) && me_rmk y e.2.2.1 && me_wd (me_mj e.2.2.1).2.2.1 (.static (me_mn e.2.2.1)) && (if e.2.2.2.1 == 2 then decide (lw_tbl[e.2.2.2.2.1]? = some (.methodLinkNest (me_mn y).cls i (me_mn e.2.2.1) "WokenOnce")) else me_wd e.2.2.2.2.1 (.methodLink (me_mn y).cls i (me_mn e.2.2.1)))
  | .ireturn => (e.2.2.1 == 1 && decide (me_mr y = some .boolean)) || (e.2.2.1 == 0 && decide (me_mr y = some .int))
  | .lreturn => decide (me_mr y = some .long)
  | .return_ => decide (me_mr y = none)
  | _ => true)
/-- .. and once of each method -/
def me_cm (z : Nat) : Bool := me_wd (me_mj z).2.1 (.initialized (me_mn z).cls) && plainName (me_mn z).cls
  && decide ((parseMethodDescriptor (me_mn z).desc).map (fun d => d.parameters.length) = some (me_mp z)) && decide ((me_mn z).cls ≠ "java/lang/invoke/MethodHandle") && decide ((me_mn z).cls ≠ "java/lang/invoke/VarHandle")
def me_cz (z : Nat) : Prop := lw_tbl[(me_mj z).1]? = some (.code (me_mn z) (me_mb z) (me_mL z) (me_mr z)) ∧ me_cm z = true
