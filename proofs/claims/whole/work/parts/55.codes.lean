/-! CODES: what a text does, behind one another (codes as the Model has them) -/
/-- the class's code for the Model's -/
def yTr (c : Nat) : Int32 :=
  if 100000 ≤ c then Int32.ofNat (c - 100000) else if c < 6 then -1 - Int32.ofNat c else if c = 13 then -12 else if c = 19 then -11 else if c = 11 then -21 else if c = 12 then -22 else if c = 14 then -23 else if c = 15 then -24 else if c = 16 then -25 else if c = 17 then -26 else -27
/-- how deep, behind a code; none if it can't be -/
def yDp1 (c k : Nat) : Option Nat :=
  if 100000 ≤ c then (if c < 110000 then some (k + 1) else none) else if c < 6 then some (k + 1) else if c = 13 ∨ c = 19 then (if 1 ≤ k then some k else none)
  else if c = 11 ∨ c = 12 ∨ c = 14 ∨ c = 15 ∨ c = 16 ∨ c = 17 ∨ c = 18 then (if 2 ≤ k then some (k - 1) else none) else none
def yDp : List Nat → Nat → Option Nat
  | [], k => some k
  | c :: cs, k => (yDp1 c k).bind fun k => yDp cs k
/-- one code on a stack -/
def yEv1 (nm : Nat → Int32) (c : Nat) (s : List Int32) : List Int32 :=
  if 100000 ≤ c then Int32.ofNat (c - 100000) :: s else if c < 6 then nm c :: s else if c = 13 then zb (decide (s.headD 0 = 0)) :: s.tail else if c = 19 then (-(s.headD 0)) :: s.tail
  else zTwo (Int32.ofNat c) (s.tail.headD 0) (s.headD 0) :: s.tail.tail
def yEv (nm : Nat → Int32) : List Nat → List Int32 → List Int32
  | [], s => s
  | c :: cs, s => yEv nm cs (yEv1 nm c s)
theorem yTr_two {c : Nat} {a b : Int32} (h : c = 11 ∨ c = 12 ∨ c = 14 ∨ c = 15 ∨ c = 16 ∨ c = 17 ∨ c = 18) : zJoin (yTr c) a b = zTwo (Int32.ofNat c) a b := by
  rcases h with h | h | h | h | h | h | h <;> subst h <;> rfl
theorem yDp_app {a b : List Nat} : ∀ {k : Nat}, yDp (a ++ b) k = (yDp a k).bind (fun j => yDp b j) := by
  induction a with
  | nil => intro k; rfl
  | cons c a ih =>
    intro k
    show (yDp1 c k).bind _ = ((yDp1 c k).bind _).bind _
    cases yDp1 c k with
    | none => rfl
    | some j => exact ih
theorem yEv_app {nm : Nat → Int32} {a b : List Nat} : ∀ {s : List Int32}, yEv nm (a ++ b) s = yEv nm b (yEv nm a s) := by
  induction a with
  | nil => intro s; rfl
  | cons c a ih => intro s; exact ih
