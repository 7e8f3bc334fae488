/-! TOKENS, and the class's reading of them. A token: (0,_) the end, (1,_) none, (2,v) a number, (3,k) a part's word, 4 or, 5 and, 6 not, (7,k) a name, (8,c) a sign -/
def yxL (v : Int32) : Bool := !decide (v < 97) && !decide (122 < v)
def yxD (v : Int32) : Bool := !decide (v < 48) && !decide (57 < v)
def yxS (v : Int32) : Bool := decide (v = 32) || decide (v = 10)
def yxG (v : Int32) : Bool := decide (v = 40) || (decide (v = 41) || (decide (v = 59) || (decide (v = 43) || (decide (v = 45) || (decide (v = 42) || (decide (v = 60) || decide (v = 61)))))))
/-- while it is so -/
def yxH (P : Int32 → Bool) (B : Nat → Int32) (n : Nat) : Nat → Nat → Nat
  | 0, p => p
  | f + 1, p => bif P (B p) then yxH P B n f (p + 1) else p
def yxW (P : Int32 → Bool) (B : Nat → Int32) (n p : Nat) : Nat := yxH P B n (n - p) p
theorem yxH_le {P : Int32 → Bool} {B : Nat → Int32} {n : Nat} : ∀ (f p : Nat), p ≤ yxH P B n f p ∧ yxH P B n f p ≤ p + f := by
  intro f
  induction f with
  | zero => exact fun p => ⟨Nat.le_refl _, Nat.le_refl _⟩
  | succ f ih =>
    intro p
    unfold yxH
    cases P (B p) with
    | false => exact ⟨Nat.le_refl _, Nat.le_add_right _ _⟩
    | true =>
      rw [cond_true]
      have := ih (p + 1)
      omega
/-- the words, where each stands in the class's row of words -/
def yxT : List (List Nat) := [[119, 111, 114, 116, 104], [99, 111, 115, 116, 115], [115, 116, 111, 114, 109], [111, 114], [97, 110, 100], [110, 111, 116], [116, 111, 108, 100], [104, 101, 105, 103, 104, 116], [109, 111, 114, 101], [102, 97, 114], [116, 105, 100, 101], [110, 117, 109, 98, 101, 114]]
def yxA (w : Nat) : Nat := [0, 6, 12, 18, 21, 25, 29, 34, 41, 46, 50, 55, 62].getD w 0
def yxQ (w : Nat) : List Nat := yxT.getD w []
theorem yxT_f : ∀ w, w < 12 → yxA (w + 1) = yxA w + (yxQ w).length + 1 ∧ yxA w + (yxQ w).length + 1 ≤ 62 ∧ (zStr 1).getD (yxA w + (yxQ w).length) 0 = 32 ∧ ∀ i, i < (yxQ w).length → (zStr 1).getD (yxA w + i) 0 = (yxQ w).getD i 0 ∧ (yxQ w).getD i 0 ≠ 32 ∧ (yxQ w).getD i 0 < 256 := by decide
def yxM (B : Nat → Int32) (b e w : Nat) : Bool := decide ((yxQ w).length = e - b) && decide (∀ i, i < e - b → B (b + i) = Int32.ofNat ((yxQ w).getD i 0))
def yxK (w : Nat) : Nat × Nat := if w < 3 then (3, w) else if w = 3 then (4, 0) else if w = 4 then (5, 0) else if w = 5 then (6, 0) else (7, w - 6)
def yxF (B : Nat → Int32) (b e : Nat) : Nat → Nat × Nat
  | 0 => (1, 0)
  | w + 1 => bif yxM B b e w then yxK w else yxF B b e w
def yxC (T : Nat × Nat) : Int32 := if T.1 = 0 then -1 else if T.1 = 1 then -2 else if T.1 = 2 then 256 else if T.1 = 3 then Int32.ofNat (300 + T.2) else if T.1 = 4 then 303 else if T.1 = 5 then 304 else if T.1 = 6 then 305 else if T.1 = 7 then Int32.ofNat (306 + T.2) else Int32.ofNat T.2
theorem yxC_K : ∀ w, w < 12 → yxC (yxK w) = Int32.ofNat (300 + w) := by decide
/-- a number's digits -/
def yxI (B : Nat → Int32) (b : Nat) : Nat → Int32
  | 0 => 0
  | k + 1 => yxI B b k * 10 + B (b + k) - 48
def yxTk (B : Nat → Int32) (n b : Nat) : (Nat × Nat) × Nat :=
  if n ≤ b then ((0, 0), b)
  else bif yxL (B b) then (yxF B b (yxW yxL B n b) 12, yxW yxL B n b)
  else bif yxD (B b) then (if 4 < yxW yxD B n b - b then (1, 0) else (2, (yxI B b (yxW yxD B n b - b)).toNatClampNeg), yxW yxD B n b)
  else (bif yxG (B b) then (8, (B b).toNatClampNeg) else (1, 0), b + 1)
theorem c_xL {d : Nat} {v : Int32} {tl : List (Nat × Nat)} {q : zR} {im : zI} : zEv (d + 1) 26 [.int v] (zMm tl q im) (some (.int (zb (yxL v)))) (zMm tl q im) := by
  refine zEv_o rfl (t_X7_isLetter ?_)
  unfold yxL
  refine ⟨fun a => ⟨?_, rfl⟩, fun a => ⟨fun b => ⟨?_, rfl⟩, fun b => ⟨?_, rfl⟩⟩⟩
  · rw [decide_eq_true a]; rfl
  · rw [decide_eq_false a, decide_eq_true b]; rfl
  · rw [decide_eq_false a, decide_eq_false b]; rfl
theorem c_xD {d : Nat} {v : Int32} {tl : List (Nat × Nat)} {q : zR} {im : zI} : zEv (d + 1) 27 [.int v] (zMm tl q im) (some (.int (zb (yxD v)))) (zMm tl q im) := by
  refine zEv_o rfl (t_X7_isDigit ?_)
  unfold yxD
  refine ⟨fun a => ⟨?_, rfl⟩, fun a => ⟨fun b => ⟨?_, rfl⟩, fun b => ⟨?_, rfl⟩⟩⟩
  · rw [decide_eq_true a]; rfl
  · rw [decide_eq_false a, decide_eq_true b]; rfl
  · rw [decide_eq_false a, decide_eq_false b]; rfl
theorem c_xG {d : Nat} {v : Int32} {tl : List (Nat × Nat)} {q : zR} {im : zI} : zEv (d + 1) 28 [.int v] (zMm tl q im) (some (.int (zb (yxG v)))) (zMm tl q im) := by
  refine zEv_o rfl (t_X7_isSign ?_)
  unfold yxG
  refine ⟨fun a => ⟨?_, rfl⟩, fun a => ⟨fun b => ⟨?_, rfl⟩, fun b => ⟨fun c => ⟨?_, rfl⟩, fun c => ⟨fun e => ⟨?_, rfl⟩, fun e => ⟨fun f => ⟨?_, rfl⟩, fun f => ⟨fun g => ⟨?_, rfl⟩, fun g => ⟨fun h => ⟨?_, rfl⟩, fun h => ⟨fun i => ⟨?_, rfl⟩, fun i => ⟨?_, rfl⟩⟩⟩⟩⟩⟩⟩⟩⟩
  · rw [decide_eq_true a]; rfl
  · rw [decide_eq_false a, decide_eq_true b]; rfl
  · rw [decide_eq_false a, decide_eq_false b, decide_eq_true c]; rfl
  · rw [decide_eq_false a, decide_eq_false b, decide_eq_false c, decide_eq_true e]; rfl
  · rw [decide_eq_false a, decide_eq_false b, decide_eq_false c, decide_eq_false e, decide_eq_true f]; rfl
  · rw [decide_eq_false a, decide_eq_false b, decide_eq_false c, decide_eq_false e, decide_eq_false f, decide_eq_true g]; rfl
  · rw [decide_eq_false a, decide_eq_false b, decide_eq_false c, decide_eq_false e, decide_eq_false f, decide_eq_false g, decide_eq_true h]; rfl
  · rw [decide_eq_false a, decide_eq_false b, decide_eq_false c, decide_eq_false e, decide_eq_false f, decide_eq_false g, decide_eq_false h, decide_eq_false i]; rfl
  · rw [decide_eq_false a, decide_eq_false b, decide_eq_false c, decide_eq_false e, decide_eq_false f, decide_eq_false g, decide_eq_false h, decide_eq_true i]; rfl
theorem zi_d {a b : Nat} (h : b ≤ a) : Int32.ofNat a - Int32.ofNat b = Int32.ofNat (a - b) := (Int32.ofNat_sub a b h).symm
theorem c_xNum {d n b : Nat} {B : Nat → Int32} {tl : List (Nat × Nat)} {q : zR} (hn : n ≤ 160) :
    ∀ (f p : Nat) (im : zI), p + f = n → b ≤ p → im 17 1 = Int32.ofNat n → (∀ k, k < n → im 18 k = B k) → im 17 8 = Int32.ofNat p → im 17 6 = Int32.ofNat b → im 17 7 = yxI B b (p - b) →
      ∃ im', zX (d + 1) zc_X7_readNumber 3 [(0, .ref 17)] [] (zMm tl q im) (fun x y => x = none ∧ y = zMm tl q im') ∧ im' 17 8 = Int32.ofNat (yxH yxD B n f p) ∧ im' 17 5 = (if 4 < yxH yxD B n f p - b then -2 else 256) ∧ im' 17 7 = yxI B b (yxH yxD B n f p - b) ∧ ∀ k j, ¬ (k = 17 ∧ (j = 5 ∨ j = 7 ∨ j = 8)) → im' k j = im k j := by
  intro f
  have fin : ∀ (p : Nat) (im : zI), p ≤ n → b ≤ p → im 17 8 = Int32.ofNat p → im 17 6 = Int32.ofNat b →
      (im 17 8 - im 17 6 ≤ (4 : Int32) → ((none : Option Value) = none ∧ zMm tl q (up2 im 17 5 (256 : Int32)) = zMm tl q (up2 im 17 5 (if 4 < p - b then -2 else 256)))) ∧ (¬ im 17 8 - im 17 6 ≤ (4 : Int32) → ((none : Option Value) = none ∧ zMm tl q (up2 im 17 5 (-2 : Int32)) = zMm tl q (up2 im 17 5 (if 4 < p - b then -2 else 256)))) := by
    intro p im hp hb h8 h6
    rw [h8, h6, zi_d hb]
    refine ⟨fun h => ?_, fun h => ?_⟩
    · rw [if_neg (fun hh => absurd ((zi_le (b := 4) (by omega) (by omega)).mp h) (by omega))]
      exact ⟨rfl, rfl⟩
    · rw [if_pos (Nat.not_le.mp fun hh => h ((zi_le (b := 4) (by omega) (by omega)).mpr hh))]
      exact ⟨rfl, rfl⟩
  have end_ : ∀ (p : Nat) (im : zI), im 17 8 = Int32.ofNat p → im 17 7 = yxI B b (p - b) → (up2 im 17 5 (if 4 < p - b then -2 else 256) : zI) 17 8 = Int32.ofNat p ∧ (up2 im 17 5 (if 4 < p - b then -2 else 256) : zI) 17 5 = (if 4 < p - b then -2 else 256) ∧ (up2 im 17 5 (if 4 < p - b then -2 else 256) : zI) 17 7 = yxI B b (p - b) ∧ ∀ k j, ¬ (k = 17 ∧ (j = 5 ∨ j = 7 ∨ j = 8)) → (up2 im 17 5 (if 4 < p - b then -2 else 256) : zI) k j = im k j := by
    intro p im h8 h7
    refine ⟨by rw [up_j (by decide)]; exact h8, up_eq, by rw [up_j (by decide)]; exact h7, fun k j h => ?_⟩
    by_cases e : k = 17
    · subst e
      exact up_j (by omega)
    · exact up_k e
  induction f with
  | zero =>
    intro p im hp hb h1 hB h8 h6 h7
    obtain ⟨e1, e2, e3, e4⟩ := end_ p im h8 h7
    refine ⟨_, t_X7_readNumber_3 ⟨fun _ => fin p im (by omega) hb h8 h6, fun h => absurd ?_ h⟩, e1, e2, e3, e4⟩
    rw [h1, h8]
    exact (zi_le (by omega) (by omega)).mpr (by omega)
  | succ f ih =>
    intro p im hp hb h1 hB h8 h6 h7
    have hlt : ¬ im 17 1 ≤ im 17 8 := by
      rw [h1, h8]
      exact fun h => absurd ((zi_le (by omega) (by omega)).mp h) (by omega)
    have v160 := zi_in (show p < 160 by omega) (show p < 2147483648 by omega)
    unfold yxH
    cases hd : yxD (B p) with
    | false =>
      rw [cond_false]
      obtain ⟨e1, e2, e3, e4⟩ := end_ p im h8 h7
      refine ⟨_, t_X7_readNumber_3 ⟨fun h => absurd h hlt, fun _ => ?_⟩, e1, e2, e3, e4⟩
      refine ⟨by rw [h8]; exact v160, _, im, c_xD, fun _ => fin p im (by omega) hb h8 h6, fun h => absurd ?_ h⟩
      rw [h8, zi_n (show p < 2147483648 by omega), hB p (by omega), hd]
      rfl
    | true =>
      rw [cond_true]
      obtain ⟨im', g1, g2, g3, g4, g5⟩ := ih (p + 1) (up2 (up2 im 17 7 (im 17 7 * 10 + im 18 p - 48)) 17 8 (Int32.ofNat (p + 1))) (by omega) (by omega) (by rw [up_j (by decide), up_j (by decide)]; exact h1) (fun k hk => by rw [up_k (by decide), up_k (by decide)]; exact hB k hk) up_eq (by rw [up_j (by decide), up_j (by decide)]; exact h6) (by
        rw [up_j (by decide), up_eq, h7, hB p (by omega), show p + 1 - b = p - b + 1 by omega]
        show _ = yxI B b (p - b) * 10 + B (b + (p - b)) - 48
        rw [show b + (p - b) = p by omega])
      refine ⟨im', t_X7_readNumber_3 ⟨fun h => absurd h hlt, fun _ => ?_⟩, g2, g3, g4, fun k j h => ?_⟩
      · rw [h8, zi_n (show p < 2147483648 by omega)]
        refine ⟨v160, _, im, c_xD, fun h => absurd h ?_, fun _ => ?_⟩
        · rw [hB p (by omega), hd]
          exact n10
        · rw [h8, zi_n (show p < 2147483648 by omega), zi_s]
          exact ⟨v160, g1⟩
      · rw [g5 k j h]
        by_cases e : k = 17
        · subst e
          rw [up_j (by omega), up_j (by omega)]
        · rw [up_k e, up_k e]
/-- whether a word is spelled so -/
theorem c_xSp {d n b e w : Nat} {B : Nat → Int32} {tl : List (Nat × Nat)} {q : zR} {im : zI} (hn : n ≤ 160) (he : e ≤ n) (hb : b ≤ e) (hw : w < 12) (hl : (yxQ w).length = e - b) (h1 : im 17 1 = Int32.ofNat n) (hB : ∀ k, k < n → im 18 k = B k) (h8 : im 17 8 = Int32.ofNat e) (h6 : im 17 6 = Int32.ofNat b) :
    zEv (d + 1) 24 [.ref 17, .int (Int32.ofNat (yxA w))] (zMm tl q im) (some (.int (zb (decide (∀ i, i < e - b → B (b + i) = Int32.ofNat ((yxQ w).getD i 0)))))) (zMm tl q im) := by
  obtain ⟨f1, f2, f3, f4⟩ := yxT_f w hw
  have lp : ∀ (f i : Nat), i + f = e - b → (∀ j, j < i → B (b + j) = Int32.ofNat ((yxQ w).getD j 0)) →
      zX d zc_X7_isSpelledFrom 3 [(0, .ref 17), (1, .int (Int32.ofNat (yxA w))), (2, .int (Int32.ofNat (b + i)))] [] (zMm tl q im) (fun x y => x = some (.int (zb (decide (∀ i, i < e - b → B (b + i) = Int32.ofNat ((yxQ w).getD i 0))))) ∧ y = zMm tl q im) := by
    intro f
    induction f with
    | zero =>
      intro i hi hj
      refine t_X7_isSpelledFrom_3 ⟨fun _ => ⟨?_, rfl⟩, fun h => absurd ?_ h⟩
      · rw [decide_eq_true (fun j hj2 => hj j (by omega))]
        rfl
      · rw [h8]
        exact (zi_le (by omega) (by omega)).mpr (by omega)
    | succ f ih =>
      intro i hi hj
      have n1 : ¬ im 17 8 ≤ Int32.ofNat (b + i) := by
        rw [h8]
        exact fun h => absurd ((zi_le (by omega) (by omega)).mp h) (by omega)
      have n2 : ¬ im 17 1 ≤ Int32.ofNat (b + i) := by
        rw [h1]
        exact fun h => absurd ((zi_le (by omega) (by omega)).mp h) (by omega)
      have ea : Int32.ofNat (yxA w) + Int32.ofNat (b + i) - im 17 6 = Int32.ofNat (yxA w + i) := by
        rw [h6, ← Int32.ofNat_add, zi_d (by omega)]
        congr 1
        omega
      have fi := f4 i (by omega)
      refine t_X7_isSpelledFrom_3 ⟨fun h => absurd h n1, fun _ => ⟨fun h => absurd h n2, fun _ => ?_⟩⟩
      rw [ea, zi_n (show yxA w + i < 2147483648 by omega), zi_n (show b + i < 2147483648 by omega), hB (b + i) (by omega), zi_s]
      show (Int32.ofNat 62 ≤ Int32.ofNat (yxA w + i) → _) ∧ (¬ Int32.ofNat 62 ≤ Int32.ofNat (yxA w + i) → vp_in (Int32.ofNat (yxA w + i)) 62 ∧ vp_in (Int32.ofNat (b + i)) 160 ∧ (Int32.ofNat ((zStr 1).getD (yxA w + i) 0) = B (b + i) → _) ∧ (¬ Int32.ofNat ((zStr 1).getD (yxA w + i) 0) = B (b + i) → _))
      rw [fi.1]
      refine ⟨fun h => absurd ((zi_le (by omega) (by omega)).mp h) (by omega), fun _ => ⟨zi_in (by omega) (by omega), zi_in (by omega) (by omega), fun h => ?_, fun h => ⟨?_, rfl⟩⟩⟩
      · exact ih (i + 1) (by omega) (fun j hj2 => by
          by_cases ej : j = i
          · subst ej; exact h.symm
          · exact hj j (by omega))
      · rw [decide_eq_false (fun hh => h (hh i (by omega)).symm)]
        rfl
  refine zEv_o rfl (t_X7_isSpelledFrom ?_)
  rw [h6]
  exact lp (e - b) 0 (by omega) (fun j hj => absurd hj (by omega))
/-- which word it is -/
theorem c_xWd {d n b e : Nat} {B : Nat → Int32} {tl : List (Nat × Nat)} {q : zR} (hn : n ≤ 160) (he : e ≤ n) (hb : b ≤ e) :
    ∀ (r w : Nat) (im : zI), w + r = 12 → im 17 1 = Int32.ofNat n → (∀ k, k < n → im 18 k = B k) → im 17 8 = Int32.ofNat e → im 17 6 = Int32.ofNat b → im 17 5 = yxC (yxF B b e w) →
      ∃ im', zX (d + 1) zc_X7_readWord 28 [(0, .ref 17), (1, .int (Int32.ofNat (300 + w))), (2, .int (Int32.ofNat (yxA w))), (3, .int (Int32.ofNat (yxA w)))] [] (zMm tl q im) (fun x y => x = none ∧ y = zMm tl q im') ∧ im' 17 5 = yxC (yxF B b e 12) ∧ ∀ k j, ¬ (k = 17 ∧ j = 5) → im' k j = im k j := by
  intro r
  induction r with
  | zero =>
    intro w im hw h1 hB h8 h6 h5
    have e12 : w = 12 := by omega
    subst e12
    exact ⟨im, t_X7_readWord_28 ⟨fun _ => ⟨rfl, rfl⟩, fun h => absurd (show (62 : Int32) ≤ 62 by decide) h⟩, h5, fun _ _ _ => rfl⟩
  | succ r ih =>
    intro w im hw h1 hB h8 h6 h5
    obtain ⟨f1, f2, f3, f4⟩ := yxT_f w (by omega)
    -- through the letters
    have lp : ∀ (Z : Option Value → zM → Prop), zX (d + 1) zc_X7_readWord 28 [(0, .ref 17), (1, .int (Int32.ofNat (300 + w))), (2, .int (Int32.ofNat (yxA w))), (3, .int (Int32.ofNat (yxA w + (yxQ w).length)))] [] (zMm tl q im) Z →
        ∀ (f i : Nat), i + f = (yxQ w).length → zX (d + 1) zc_X7_readWord 28 [(0, .ref 17), (1, .int (Int32.ofNat (300 + w))), (2, .int (Int32.ofNat (yxA w))), (3, .int (Int32.ofNat (yxA w + i)))] [] (zMm tl q im) Z := by
      intro Z hz f
      induction f with
      | zero =>
        intro i hi
        rw [show i = (yxQ w).length by omega]
        exact hz
      | succ f ih2 =>
        intro i hi
        have fi := f4 i (by omega)
        refine t_X7_readWord_28 ?_
        rw [zi_n (show yxA w + i < 2147483648 by omega)]
        show (Int32.ofNat 62 ≤ Int32.ofNat (yxA w + i) → _) ∧ (¬ Int32.ofNat 62 ≤ Int32.ofNat (yxA w + i) → vp_in (Int32.ofNat (yxA w + i)) 62 ∧ (¬ Int32.ofNat ((zStr 1).getD (yxA w + i) 0) = (32 : Int32) → _) ∧ (Int32.ofNat ((zStr 1).getD (yxA w + i) 0) = (32 : Int32) → _))
        rw [fi.1]
        refine ⟨fun h => absurd ((zi_le (by omega) (by omega)).mp h) (by omega), fun _ => ⟨zi_in (by omega) (by omega), fun _ => ?_, fun h => absurd ((zi_eq (b := 32) (by omega) (by omega)).mp h) fi.2.1⟩⟩
        rw [zi_s]
        exact ih2 (i + 1) (by omega)
    have e28 : ∀ (Z : Option Value → zM → Prop), ((¬ Int32.ofNat (yxQ w).length = Int32.ofNat (e - b) → zX (d + 1) zc_X7_readWord 28 [(0, .ref 17), (1, .int (Int32.ofNat (300 + (w + 1)))), (2, .int (Int32.ofNat (yxA (w + 1)))), (3, .int (Int32.ofNat (yxA (w + 1))))] [] (zMm tl q im) Z) ∧
        (Int32.ofNat (yxQ w).length = Int32.ofNat (e - b) → ∃ (v5 : Int32) (im4 : zI), zEv (d + 1) 24 [.ref 17, .int (Int32.ofNat (yxA w))] (zMm tl q im) (some (.int v5)) (zMm tl q im4) ∧ (v5 = 0 → zX (d + 1) zc_X7_readWord 28 [(0, .ref 17), (1, .int (Int32.ofNat (300 + (w + 1)))), (2, .int (Int32.ofNat (yxA (w + 1)))), (3, .int (Int32.ofNat (yxA (w + 1))))] [] (zMm tl q im4) Z) ∧ (¬ v5 = 0 → zX (d + 1) zc_X7_readWord 28 [(0, .ref 17), (1, .int (Int32.ofNat (300 + (w + 1)))), (2, .int (Int32.ofNat (yxA (w + 1)))), (3, .int (Int32.ofNat (yxA (w + 1))))] [] (zMm tl q (up2 im4 17 5 (Int32.ofNat (300 + w)))) Z))) →
        zX (d + 1) zc_X7_readWord 28 [(0, .ref 17), (1, .int (Int32.ofNat (300 + w))), (2, .int (Int32.ofNat (yxA w))), (3, .int (Int32.ofNat (yxA w)))] [] (zMm tl q im) Z := by
      intro Z h
      refine lp Z ?_ (yxQ w).length 0 (by omega)
      refine t_X7_readWord_28 ?_
      rw [zi_n (show yxA w + (yxQ w).length < 2147483648 by omega), h8, h6, zi_d hb, zi_d (show yxA w ≤ yxA w + (yxQ w).length by omega), show yxA w + (yxQ w).length - yxA w = (yxQ w).length by omega, zi_s, zi_s, ← f1]
      show (Int32.ofNat 62 ≤ Int32.ofNat (yxA w + (yxQ w).length) → _) ∧ (¬ Int32.ofNat 62 ≤ Int32.ofNat (yxA w + (yxQ w).length) → vp_in (Int32.ofNat (yxA w + (yxQ w).length)) 62 ∧ (¬ Int32.ofNat ((zStr 1).getD (yxA w + (yxQ w).length) 0) = (32 : Int32) → _) ∧ (Int32.ofNat ((zStr 1).getD (yxA w + (yxQ w).length) 0) = (32 : Int32) → _))
      rw [f3]
      exact ⟨fun h => absurd ((zi_le (by omega) (by omega)).mp h) (by omega), fun _ => ⟨zi_in (by omega) (by omega), fun h => absurd rfl h, fun _ => h⟩⟩
    have hlen : (yxQ w).length < 2147483648 := by omega
    by_cases el : (yxQ w).length = e - b
    · have ht : yxF B b e (w + 1) = bif decide (∀ i, i < e - b → B (b + i) = Int32.ofNat ((yxQ w).getD i 0)) then yxK w else yxF B b e w := by
        show (bif yxM B b e w then _ else _) = _
        unfold yxM
        rw [decide_eq_true el, Bool.true_and]
      have sp := c_xSp (d := d) (tl := tl) (q := q) (im := im) (w := w) hn he hb (by omega) el h1 hB h8 h6
      cases hs : decide (∀ i, i < e - b → B (b + i) = Int32.ofNat ((yxQ w).getD i 0)) with
      | false =>
        rw [hs] at sp ht
        obtain ⟨im', g1, g2, g3⟩ := ih (w + 1) im (by omega) h1 hB h8 h6 (by rw [ht]; exact h5)
        exact ⟨im', e28 _ ⟨fun h => absurd (congrArg Int32.ofNat el) h, fun _ => ⟨_, im, sp, fun _ => g1, fun h => absurd rfl h⟩⟩, g2, g3⟩
      | true =>
        rw [hs] at sp ht
        obtain ⟨im', g1, g2, g3⟩ := ih (w + 1) (up2 im 17 5 (Int32.ofNat (300 + w))) (by omega) (by rw [up_j (by decide)]; exact h1) (fun k hk => by rw [up_k (by decide)]; exact hB k hk) (by rw [up_j (by decide)]; exact h8) (by rw [up_j (by decide)]; exact h6) (by rw [up_eq, ht]; exact (yxC_K w (by omega)).symm)
        refine ⟨im', e28 _ ⟨fun h => absurd (congrArg Int32.ofNat el) h, fun _ => ⟨_, im, sp, fun h => absurd h n10, fun _ => g1⟩⟩, g2, fun k j h => ?_⟩
        rw [g3 k j h]
        by_cases e : k = 17
        · subst e
          exact up_j (by omega)
        · exact up_k e
    · have ht : yxF B b e (w + 1) = yxF B b e w := by
        show (bif yxM B b e w then _ else _) = _
        unfold yxM
        rw [decide_eq_false el, Bool.false_and]
        rfl
      obtain ⟨im', g1, g2, g3⟩ := ih (w + 1) im (by omega) h1 hB h8 h6 (by rw [ht]; exact h5)
      exact ⟨im', e28 _ ⟨fun _ => g1, fun h => absurd ((zi_eq (by omega) (by omega)).mp h) el⟩, g2, g3⟩
