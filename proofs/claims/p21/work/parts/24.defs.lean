/-! WHAT THE PLAN SAYS: pure -/
def s4 (d : Nat → Nat) (h : Nat) : Nat := d (4 * h) + d (4 * h + 1) + d (4 * h + 2) + d (4 * h + 3)
def jI (z : Int) : Int64 := Int64.ofInt z
/-- what one mends, as a number -/
def mdN (k : Int32) (v H : Nat) : Nat := if k = 1 then (if 9 < v then 9 else v) else if k = 2 then (if 2 < H then v else v / 2) else if k = 4 then v / 2 else v
def gM (kd : Nat → Int32) (sk : Nat → Nat) (t H s : Nat) : Nat := mdN (kd s) (sk (s * 4 + t)) H
/-- a sum over a set, as a number -/
def smN (S : Nat) (g : Nat → Nat) : Nat → Nat
  | 0 => 0
  | j + 1 => smN S g j + (if S.testBit j = true then g j else 0)
def mnd (N hv : Nat) (g : Nat → Nat) (S : Nat) : Nat := if hv < smN S g N then hv else smN S g N
def dif (a b : Nat) : Nat := a ^^^ (a &&& b)
/-- how many -/
def cn (S : Nat) : Nat := (if S.testBit 0 = true then 1 else 0) + (if S.testBit 1 = true then 1 else 0) + (if S.testBit 2 = true then 1 else 0) + (if S.testBit 3 = true then 1 else 0) + (if S.testBit 4 = true then 1 else 0) + (if S.testBit 5 = true then 1 else 0) + (if S.testBit 6 = true then 1 else 0)
noncomputable def mxU (P : Nat → Prop) (V : Nat → Int) : Nat → Int
  | 0 => V 0
  | j + 1 => @ite _ (P j ∧ mxU P V j < V j) (Classical.propDecidable _) (V j) (mxU P V j)
def Alw (kd : Nat → Int32) (H A S : Nat) : Prop := cn S ≤ 2 ∧ ∀ s, s < 7 → S.testBit s = true → A.testBit s = true ∧ (kd s = 3 → H < 4)
def vA (N nb hv : Nat) (g : Nat → Nat) (u : Int) (f : Nat → Int) (A S : Nat) : Int := (mnd N hv g S : Int) * u + f (dif A (dif S nb))
/-- a thing comes, known: the best of it -/
noncomputable def mxA (N nb : Nat) (kd : Nat → Int32) (sk hm : Nat → Nat) (u : Int) (f : Nat → Int) (H t A : Nat) : Int := mxU (Alw kd H A) (vA N nb (hm t) (gM kd sk t H) u f A) (2 ^ N)
noncomputable def plT (N nb : Nat) (kd : Nat → Int32) (sk hm x : Nat → Nat) (u : Int) (f : Nat → Int) (h : Nat) : Nat → Nat → Int
  | 0, _ => 0
  | t + 1, A => plT N nb kd sk hm x u f h t A + (x (4 * h + t) : Int) * mxA N nb kd sk hm u f h t A
noncomputable def plF (N nb : Nat) (kd : Nat → Int32) (sk hm x : Nat → Nat) : Nat → Nat → Int
  | 0, _ => 0
  | n + 1, A => plT N nb kd sk hm x (10 ^ n) (plF N nb kd sk hm x n) (5 - n) 4 A + ((10 - s4 x (5 - n) : Nat) : Int) * plF N nb kd sk hm x n A
