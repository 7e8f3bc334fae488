/-! SPEC: the top of a tide, in numbers alone -/
def zSum : Nat → (Nat → Int32) → Int32
  | 0, _ => 0
  | n + 1, f => zSum n f + f n
def zCnt : Nat → (Nat → Bool) → Nat
  | 0, _ => 0
  | n + 1, f => zCnt n f + (bif f n then 1 else 0)
theorem zSum_congr {f g : Nat → Int32} : ∀ {n : Nat}, (∀ i, i < n → f i = g i) → zSum n f = zSum n g
  | 0, _ => rfl
  | n + 1, h => by
    show zSum n f + f n = zSum n g + g n
    rw [zSum_congr (fun i hi => h i (by omega)), h n (by omega)]
theorem zCnt_congr {f g : Nat → Bool} : ∀ {n : Nat}, (∀ i, i < n → f i = g i) → zCnt n f = zCnt n g
  | 0, _ => rfl
  | n + 1, h => by
    show zCnt n f + _ = zCnt n g + _
    rw [zCnt_congr (fun i hi => h i (by omega)), h n (by omega)]
theorem zCnt_le {f : Nat → Bool} : ∀ {n : Nat}, zCnt n f ≤ n
  | 0 => Nat.le_refl 0
  | n + 1 => by
    have := zCnt_le (f := f) (n := n)
    show zCnt n f + _ ≤ n + 1
    cases f n <;> simp <;> omega
/-- one place of a row set -/
def zSet {α : Type} (s : Nat → α) (p : Nat) (x : α) : Nat → α := fun q => if q = p then x else s q
theorem zSet_eq {α : Type} {s : Nat → α} {p : Nat} {x : α} : zSet s p x p = x := if_pos rfl
theorem zSet_ne {α : Type} {s : Nat → α} {p q : Nat} {x : α} (h : q ≠ p) : zSet s p x q = s q := if_neg h
theorem zCnt_set {g : Int32 → Bool} {s : Nat → Int32} {p : Nat} {x : Int32} : ∀ {m : Nat}, p < m → zCnt m (fun q => g (zSet s p x q)) + (bif g (s p) then 1 else 0) = zCnt m (fun q => g (s q)) + (bif g x then 1 else 0)
  | 0, h => absurd h (by omega)
  | m + 1, h => by
    show zCnt m _ + (bif g (zSet s p x m) then 1 else 0) + _ = zCnt m _ + (bif g (s m) then 1 else 0) + _
    by_cases e : p = m
    · subst e
      rw [zSet_eq, zCnt_congr (g := fun q => g (s q)) (fun i hi => by rw [zSet_ne (by omega)])]
      omega
    · rw [zSet_ne (fun q => e q.symm)]
      have := zCnt_set (g := g) (s := s) (p := p) (x := x) (m := m) (by omega)
      omega
/-- somebody at x stands on something -/
def zTh (n : Nat) (st : Nat → Bool) (x : Int32) : Bool := decide (0 ≤ x) && (decide (x < Int32.ofNat n) && st x.toNatClampNeg)
/-- and its root is r -/
def zIs (n : Nat) (st : Nat → Bool) (rt : Nat → Nat) (r : Nat) (x : Int32) : Bool := zTh n st x && decide (rt x.toNatClampNeg = r)
def zUn (n : Nat) (st : Nat → Bool) (rt : Nat → Nat) (x : Int32) : Int32 := bif zTh n st x then Int32.ofNat (rt x.toNatClampNeg) else -1
/-- how many stand where the root is r -/
def zCr (n m : Nat) (st : Nat → Bool) (rt : Nat → Nat) (s : Nat → Int32) (r : Nat) : Nat := zCnt m (fun q => zIs n st rt r (s q))
/-- the worth of all that stands with the root r -/
def zWh (n : Nat) (w : Nat → Int32) (st : Nat → Bool) (rt : Nat → Nat) (r : Nat) : Int32 := zSum n (fun j => bif st j && decide (rt j = r) then w j else 0)
/-- the first from p on, of k -/
def zFst (f : Nat → Bool) : Nat → Nat → Int32
  | _, 0 => -1
  | p, k + 1 => bif f p then Int32.ofNat p else zFst f (p + 1) k
def zOwn (n m : Nat) (st : Nat → Bool) (rt : Nat → Nat) (s : Nat → Int32) (i : Nat) : Int32 :=
  if zCr n m st rt s (rt i) = 1 then zFst (fun q => zIs n st rt (rt i) (s q)) 0 m else -1
/-- gain of one, were this one at x -/
def zGa (n m : Nat) (w : Nat → Int32) (st : Nat → Bool) (rt : Nat → Nat) (s : Nat → Int32) (p : Nat) (x : Int32) : Int32 :=
  bif zTh n st x then (if zCr n m st rt s (rt x.toNatClampNeg) = (bif zIs n st rt (rt x.toNatClampNeg) (s p) then 1 else 0) then zWh n w st rt (rt x.toNatClampNeg) else 0) else 0
/-- roots: the lowest of what is one -/
def zRt (n : Nat) (on rt : Nat → Nat) : Prop := n ≤ 6 ∧ (∀ i, i < n → rt i ≤ i ∧ on i < 64 ∧ on i ≠ 0 ∧ zLow (on i) = rt i ∧ rt (rt i) = rt i ∧ (∀ j, (on i).testBit j = (decide (j < n) && decide (rt j = rt i))))
/-- the class's top of a tide, but for its sums -/
def zTo (im : zI) (n m : Nat) (w : Nat → Int32) (st : Nat → Bool) (on rt : Nat → Nat) (s : Nat → Int32) : Prop :=
  zRt n on rt ∧ m ≤ 4 ∧ im 21 7 = Int32.ofNat n ∧ im 21 8 = Int32.ofNat m ∧ (∀ i, i < n → im 22 i = w i) ∧ (∀ i, i < n → im 23 i = zb (st i)) ∧ (∀ i, i < n → im 24 i = Int32.ofNat (on i)) ∧
  (∀ p, p < m → im 25 p = s p)
/-- the class's top of a tide -/
def zTop (im : zI) (n m : Nat) (w : Nat → Int32) (st : Nat → Bool) (on rt : Nat → Nat) (s : Nat → Int32) : Prop :=
  zTo im n m w st on rt s ∧ (∀ i, i < n → im 31 i = zWh n w st rt i) ∧ (∀ i, i < n → im 32 i = Int32.ofNat (zCr n m st rt s i))
theorem zTh_ex {n : Nat} {st : Nat → Bool} {x : Int32} (hn : n ≤ 6) (h : zTh n st x = true) : ∃ k, k < n ∧ x = Int32.ofNat k ∧ st k = true := by
  unfold zTh at h
  rw [Bool.and_eq_true, Bool.and_eq_true, decide_eq_true_eq, decide_eq_true_eq] at h
  obtain ⟨h1, h2, h3⟩ := h
  obtain ⟨k, hk, e⟩ := zi_ex2 (Int32.not_lt.mpr h1) h2 (by omega)
  refine ⟨k, hk, e, ?_⟩
  rw [e, zi_n (by omega)] at h3
  exact h3
theorem zTh_of {n k : Nat} {st : Nat → Bool} (hn : n ≤ 6) (hk : k < n) : zTh n st (Int32.ofNat k) = st k := by
  unfold zTh
  rw [decide_eq_true (zi_ge0 (by omega)), decide_eq_true ((zi_lt (by omega) (by omega)).mpr hk), zi_n (by omega), Bool.true_and, Bool.true_and]
theorem zTh_m1 {n : Nat} {st : Nat → Bool} : zTh n st (-1) = false := by
  unfold zTh
  rw [decide_eq_false (by decide)]
  rfl
theorem zUn_is {n : Nat} {st : Nat → Bool} {rt : Nat → Nat} {x : Int32} {r : Nat} (hn : n ≤ 6) (hr : ∀ i, i < n → rt i ≤ i) (h6 : r ≤ 6) : zUn n st rt x = Int32.ofNat r ↔ zIs n st rt r x = true := by
  unfold zUn zIs
  cases h : zTh n st x with
  | false =>
    rw [cond_false, Bool.false_and]
    constructor
    · intro e
      exact absurd e.symm (zi_m1 (by omega))
    · intro e
      cases e
  | true =>
    obtain ⟨k, hk, e, _⟩ := zTh_ex hn h
    subst e
    have := hr k hk
    rw [cond_true, Bool.true_and, decide_eq_true_eq, zi_n (by omega), zi_eq (by omega) (by omega)]
