/-! TOP, on: what is left, the best, rest, ways -/
/-- a bit of a set -/
def zBt (set : Int32) (p : Nat) : Bool := decide (((set >>> (Int32.ofNat p &&& 31)) &&& (1 : Int32)) = (1 : Int32))
theorem zi_bit {x : Int32} : x &&& 1 = 0 ∨ x &&& 1 = 1 := by
  have h : ∀ y : BitVec 32, y &&& 1#32 = 0#32 ∨ y &&& 1#32 = 1#32 := fun y => by
    rw [BitVec.and_one_eq_setWidth_ofBool_getLsbD]
    cases y.getLsbD 0 <;> decide
  rcases h x.toBitVec with h | h
  · exact .inl (Int32.toBitVec_inj.mp (by rw [Int32.toBitVec_and]; exact h))
  · exact .inr (Int32.toBitVec_inj.mp (by rw [Int32.toBitVec_and]; exact h))
theorem zBt_0 {set : Int32} {p : Nat} : ((set >>> (Int32.ofNat p &&& 31)) &&& (1 : Int32)) = 0 ↔ zBt set p = false := by
  unfold zBt
  rcases zi_bit (x := set >>> (Int32.ofNat p &&& 31)) with h | h
  · rw [h]
    simp
  · rw [h]
    simp
theorem zBt_1 {set : Int32} {p : Nat} : ((set >>> (Int32.ofNat p &&& 31)) &&& (1 : Int32)) = 1 ↔ zBt set p = true := by
  unfold zBt
  rw [decide_eq_true_eq]
theorem zRf_fare {q : zR} {p : Nat} (h : p < 4) : zRf q 26 p = some (27 + p) := by
  match p, h with
  | 0, _ => rfl
  | 1, _ => rfl
  | 2, _ => rfl
  | 3, _ => rfl
theorem zB_fare {tl : List (Nat × Nat)} {p : Nat} (h : p < 4) : (zB ++ tl)[27 + p]? = some (20, 6) := by
  match p, h with
  | 0, _ => rfl
  | 1, _ => rfl
  | 2, _ => rfl
  | 3, _ => rfl
/-- what is left to one at x -/
def zLf (n m : Nat) (w : Nat → Int32) (st : Nat → Bool) (rt : Nat → Nat) (s : Nat → Int32) (f : Nat → Nat → Int32) (p : Nat) (x : Int32) : Int32 :=
  bif decide (0 ≤ x) && decide (x < Int32.ofNat n) then zGa n m w st rt s p x - f p x.toNatClampNeg else 0
theorem c_leftAt {d n m p : Nat} {tl : List (Nat × Nat)} {q : zR} {im : zI} {w : Nat → Int32} {st : Nat → Bool} {on rt : Nat → Nat} {s : Nat → Int32} {f : Nat → Nat → Int32} {x : Int32} (h : zTop im n m w st on rt s) (hf : ∀ p, p < m → ∀ i, i < n → im (27 + p) i = f p i) (hp : p < m) : zEv (d + 5) 53 [.ref 21, .int (Int32.ofNat p), .int x] (zMm tl q im) (some (.int (zLf n m w st rt s f p x))) (zMm tl q im) := by
  have h6 := h.1.1.1
  have hm : m ≤ 4 := h.1.2.1
  have h7 : im 21 7 = Int32.ofNat n := h.1.2.2.1
  refine zEv_o rfl (t_X9_leftAt ?_)
  unfold zLf
  rw [h7]
  refine ⟨fun hn => ⟨?_, rfl⟩, fun hn => ⟨fun hl => ⟨_, _, c_gainAt h hp, zi_in (by omega) (by omega), ?_⟩, fun hl => ⟨?_, rfl⟩⟩⟩
  · rw [decide_eq_false (Int32.not_le.mpr hn)]; rfl
  · rw [zi_n (by omega), zRf_fare (by omega)]
    show ((zB ++ tl)[27 + p]?).elim _ _
    rw [zB_fare (by omega)]
    obtain ⟨k, hk, e⟩ := zi_ex2 hn hl (by omega)
    subst e
    refine ⟨zi_in (show k < 6 by omega) (by omega), ?_, rfl⟩
    rw [decide_eq_true (Int32.not_lt.mp hn), decide_eq_true hl, zi_n (by omega), hf p hp k hk]
    rfl
  · rw [decide_eq_false hl, Bool.and_false]; rfl
/-- the sum of what is left to a set -/
def zLa (n m : Nat) (w : Nat → Int32) (st : Nat → Bool) (rt : Nat → Nat) (s : Nat → Int32) (f : Nat → Nat → Int32) (set : Int32) : Int32 := zSum m (fun p => bif zBt set p then zLf n m w st rt s f p (s p) else 0)
theorem c_leftOfAll {d n m : Nat} {tl : List (Nat × Nat)} {q : zR} {im : zI} {w : Nat → Int32} {st : Nat → Bool} {on rt : Nat → Nat} {s : Nat → Int32} {f : Nat → Nat → Int32} {set : Int32} (h : zTop im n m w st on rt s) (hf : ∀ p, p < m → ∀ i, i < n → im (27 + p) i = f p i) : zEv (d + 6) 54 [.ref 21, .int set] (zMm tl q im) (some (.int (zLa n m w st rt s f set))) (zMm tl q im) := by
  have hm : m ≤ 4 := h.1.2.1
  have h8 : im 21 8 = Int32.ofNat m := h.1.2.2.2.1
  have hs : ∀ q, q < m → im 25 q = s q := h.1.2.2.2.2.2.2.2
  have lp : ∀ k i, i + k = m → zX (d + 5) zc_X9_leftOfAll 4 [(0, .ref 21), (1, .int set), (2, .int (zSum i (fun p => bif zBt set p then zLf n m w st rt s f p (s p) else 0))), (3, .int (Int32.ofNat i))] [] (zMm tl q im) (fun a b => a = some (.int (zLa n m w st rt s f set)) ∧ b = zMm tl q im) := by
    intro k
    induction k with
    | zero =>
      intro i hi
      refine t_X9_leftOfAll_4 ?_
      rw [h8]
      have e : i = m := by omega
      subst e
      exact ⟨fun _ => ⟨rfl, rfl⟩, fun h => absurd ((zi_le (by omega) (by omega)).mpr (by omega)) h⟩
    | succ k ih =>
      intro i hi
      refine t_X9_leftOfAll_4 ?_
      rw [h8, zBt_1, zi_s, zi_n (by omega), hs i (by omega)]
      have ih := ih (i + 1) (by omega)
      rw [show zSum (i + 1) (fun p => bif zBt set p then zLf n m w st rt s f p (s p) else 0) = zSum i (fun p => bif zBt set p then zLf n m w st rt s f p (s p) else 0) + (bif zBt set i then zLf n m w st rt s f i (s i) else 0) from rfl] at ih
      refine ⟨fun h => absurd ((zi_le (by omega) (by omega)).mp h) (by omega), fun _ => ⟨fun e => ?_, fun e => ⟨zi_in (by omega) (by omega), _, _, c_leftAt h hf (by omega), ?_⟩⟩⟩
      · rw [Bool.eq_false_iff.mpr e, cond_false, Int32.add_zero] at ih
        exact ih
      · rw [e] at ih
        exact ih
  exact zEv_o rfl (t_X9_leftOfAll (lp m 0 (by omega)))
/-- the best so far of the first i, and what it leaves -/
def zBp (L : Nat → Int32) : Nat → Int32 × Int32
  | 0 => (-1, 0)
  | i + 1 => if L i ≤ (zBp L i).2 then zBp L i else (Int32.ofNat i, L i)
def zBest (n m : Nat) (w : Nat → Int32) (st : Nat → Bool) (rt : Nat → Nat) (s : Nat → Int32) (f : Nat → Nat → Int32) (p : Nat) : Int32 := (zBp (fun i => zLf n m w st rt s f p (Int32.ofNat i)) n).1
theorem c_bestPlaceOf {d n m p : Nat} {tl : List (Nat × Nat)} {q : zR} {im : zI} {w : Nat → Int32} {st : Nat → Bool} {on rt : Nat → Nat} {s : Nat → Int32} {f : Nat → Nat → Int32} (h : zTop im n m w st on rt s) (hf : ∀ p, p < m → ∀ i, i < n → im (27 + p) i = f p i) (hp : p < m) : zEv (d + 6) 55 [.ref 21, .int (Int32.ofNat p)] (zMm tl q im) (some (.int (zBest n m w st rt s f p))) (zMm tl q im) := by
  have h6 := h.1.1.1
  have hm : m ≤ 4 := h.1.2.1
  have h7 : im 21 7 = Int32.ofNat n := h.1.2.2.1
  have lp : ∀ k i, i + k = n → zX (d + 5) zc_X9_bestPlaceOf 6 [(0, .ref 21), (1, .int (Int32.ofNat p)), (2, .int (zBp (fun i => zLf n m w st rt s f p (Int32.ofNat i)) i).1), (3, .int (zBp (fun i => zLf n m w st rt s f p (Int32.ofNat i)) i).2), (4, .int (Int32.ofNat i))] [] (zMm tl q im) (fun a b => a = some (.int (zBest n m w st rt s f p)) ∧ b = zMm tl q im) := by
    intro k
    induction k with
    | zero =>
      intro i hi
      refine t_X9_bestPlaceOf_6 ?_
      rw [h7]
      have e : i = n := by omega
      subst e
      exact ⟨fun _ => ⟨rfl, rfl⟩, fun h => absurd ((zi_le (by omega) (by omega)).mpr (by omega)) h⟩
    | succ k ih =>
      intro i hi
      refine t_X9_bestPlaceOf_6 ?_
      rw [h7, zi_s]
      have ih := ih (i + 1) (by omega)
      rw [show zBp (fun i => zLf n m w st rt s f p (Int32.ofNat i)) (i + 1) = if zLf n m w st rt s f p (Int32.ofNat i) ≤ (zBp (fun i => zLf n m w st rt s f p (Int32.ofNat i)) i).2 then zBp (fun i => zLf n m w st rt s f p (Int32.ofNat i)) i else (Int32.ofNat i, zLf n m w st rt s f p (Int32.ofNat i)) from rfl] at ih
      refine ⟨fun h => absurd ((zi_le (by omega) (by omega)).mp h) (by omega), fun _ => ⟨_, _, c_leftAt h hf hp, fun e => ?_, fun e => ?_⟩⟩
      · rw [if_pos e] at ih
        exact ih
      · rw [if_neg e] at ih
        exact ih
  exact zEv_o rfl (t_X9_bestPlaceOf (lp n 0 (by omega)))
/-- all of k from p on -/
def zAl (f : Nat → Bool) : Nat → Nat → Bool
  | _, 0 => true
  | p, k + 1 => f p && zAl f (p + 1) k
def zRest (n m : Nat) (w : Nat → Int32) (st : Nat → Bool) (rt : Nat → Nat) (s : Nat → Int32) (f : Nat → Nat → Int32) : Bool := zAl (fun p => decide (zLf n m w st rt s f p (zBest n m w st rt s f p) ≤ zLf n m w st rt s f p (s p))) 0 m
theorem c_isAtRest {d n m : Nat} {tl : List (Nat × Nat)} {q : zR} {im : zI} {w : Nat → Int32} {st : Nat → Bool} {on rt : Nat → Nat} {s : Nat → Int32} {f : Nat → Nat → Int32} (h : zTop im n m w st on rt s) (hf : ∀ p, p < m → ∀ i, i < n → im (27 + p) i = f p i) : zEv (d + 7) 56 [.ref 21] (zMm tl q im) (some (.int (zb (zRest n m w st rt s f)))) (zMm tl q im) := by
  have hm : m ≤ 4 := h.1.2.1
  have h8 : im 21 8 = Int32.ofNat m := h.1.2.2.2.1
  have hs : ∀ q, q < m → im 25 q = s q := h.1.2.2.2.2.2.2.2
  have lp : ∀ k p, p + k = m → zX (d + 6) zc_X9_isAtRest 2 [(0, .ref 21), (1, .int (Int32.ofNat p))] [] (zMm tl q im) (fun a b => a = some (.int (zb (zAl (fun p => decide (zLf n m w st rt s f p (zBest n m w st rt s f p) ≤ zLf n m w st rt s f p (s p))) p k))) ∧ b = zMm tl q im) := by
    intro k
    induction k with
    | zero =>
      intro p hp
      refine t_X9_isAtRest_2 ?_
      rw [h8]
      exact ⟨fun _ => ⟨rfl, rfl⟩, fun h => absurd ((zi_le (by omega) (by omega)).mpr (by omega)) h⟩
    | succ k ih =>
      intro p hp
      refine t_X9_isAtRest_2 ?_
      rw [h8, zi_s, zi_n (by omega), hs p (by omega)]
      have ih := ih (p + 1) (by omega)
      rw [show zAl (fun p => decide (zLf n m w st rt s f p (zBest n m w st rt s f p) ≤ zLf n m w st rt s f p (s p))) p (k + 1) = (decide (zLf n m w st rt s f p (zBest n m w st rt s f p) ≤ zLf n m w st rt s f p (s p)) && zAl (fun p => decide (zLf n m w st rt s f p (zBest n m w st rt s f p) ≤ zLf n m w st rt s f p (s p))) (p + 1) k) from rfl]
      refine ⟨fun h => absurd ((zi_le (by omega) (by omega)).mp h) (by omega), fun _ => ⟨zi_in (by omega) (by omega), _, _, c_leftAt h hf (by omega), _, _, c_bestPlaceOf h hf (by omega), _, _, c_leftAt h hf (by omega), fun e => ?_, fun e => ⟨?_, rfl⟩⟩⟩
      · rw [decide_eq_true e, Bool.true_and]
        exact ih
      · rw [decide_eq_false e]; rfl
  exact zEv_o rfl (t_X9_isAtRest (lp m 0 (by omega)))
