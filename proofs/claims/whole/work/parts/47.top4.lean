/-! TOP, on: worths of what stands, the dearest, ways -/
/-- the worth of all that stands, or of what of it is nobody's -/
def yWs (n m : Nat) (w : Nat → Int32) (st : Nat → Bool) (rt : Nat → Nat) (s : Nat → Int32) (nob : Bool) : Int32 := zSum n (fun i => bif st i && (!nob || decide (zOwn n m st rt s i = -1)) then w i else 0)
theorem c_worthOfStanding {d n m : Nat} {tl : List (Nat × Nat)} {q : zR} {im : zI} {w : Nat → Int32} {st : Nat → Bool} {on rt : Nat → Nat} {s : Nat → Int32} {nob : Bool} (h : zTop im n m w st on rt s) : zEv (d + 5) 57 [.ref 21, .int (zb nob)] (zMm tl q im) (some (.int (yWs n m w st rt s nob))) (zMm tl q im) := by
  have h6 := h.1.1.1
  have h7 : im 21 7 = Int32.ofNat n := h.1.2.2.1
  have hw : ∀ i, i < n → im 22 i = w i := h.1.2.2.2.2.1
  have hst : ∀ i, i < n → im 23 i = zb (st i) := h.1.2.2.2.2.2.1
  have lp : ∀ k i, i + k = n → zX (d + 4) zc_X9_worthOfStanding 4 [(0, .ref 21), (1, .int (zb nob)), (2, .int (zSum i (fun i => bif st i && (!nob || decide (zOwn n m st rt s i = -1)) then w i else 0))), (3, .int (Int32.ofNat i))] [] (zMm tl q im) (fun a b => a = some (.int (yWs n m w st rt s nob)) ∧ b = zMm tl q im) := by
    intro k
    induction k with
    | zero =>
      intro i hi
      refine t_X9_worthOfStanding_4 ?_
      rw [h7]
      have e : i = n := by omega
      subst e
      exact ⟨fun _ => ⟨rfl, rfl⟩, fun h => absurd ((zi_le (by omega) (by omega)).mpr (by omega)) h⟩
    | succ k ih =>
      intro i hi
      refine t_X9_worthOfStanding_4 ?_
      have ih := ih (i + 1) (by omega)
      rw [show zSum (i + 1) (fun i => bif st i && (!nob || decide (zOwn n m st rt s i = -1)) then w i else 0) = zSum i (fun i => bif st i && (!nob || decide (zOwn n m st rt s i = -1)) then w i else 0) + (bif st i && (!nob || decide (zOwn n m st rt s i = -1)) then w i else 0) from rfl] at ih
      rw [h7, zi_s, zi_n (by omega), hst i (by omega), hw i (by omega), zb_0, zb_0]
      refine ⟨fun h => absurd ((zi_le (by omega) (by omega)).mp h) (by omega), fun _ => ⟨zi_in (by omega) (by omega), fun e => ?_, fun e => ⟨fun e2 => ⟨zi_in (by omega) (by omega), ?_⟩, fun e2 => ⟨_, _, c_ownerOf h (by omega), fun e3 => ?_, fun e3 => ⟨zi_in (by omega) (by omega), ?_⟩⟩⟩⟩⟩
      · rw [e, Bool.false_and, cond_false, Int32.add_zero] at ih
        exact ih
      · rw [Bool.not_eq_false _ |>.mp e, e2] at ih
        rw [e2]
        exact ih
      · rw [Bool.not_eq_false _ |>.mp e, Bool.not_eq_false _ |>.mp e2, decide_eq_false e3] at ih
        rw [Bool.not_eq_false _ |>.mp e2]
        simp only [Bool.not_true, Bool.or_self, Bool.and_false, cond_false, Int32.add_zero] at ih
        exact ih
      · rw [Bool.not_eq_false _ |>.mp e, Bool.not_eq_false _ |>.mp e2, decide_eq_true e3] at ih
        rw [Bool.not_eq_false _ |>.mp e2, hw i (by omega)]
        exact ih
  exact zEv_o rfl (t_X9_worthOfStanding (lp n 0 (by omega)))
/-- the dearest of the first i that are to be had -/
def yDe (w : Nat → Int32) (g : Nat → Bool) : Nat → Int32
  | 0 => -1
  | i + 1 => bif g i && (decide (yDe w g i = -1) || decide (w (yDe w g i).toNatClampNeg < w i)) then Int32.ofNat i else yDe w g i
theorem yDe_or {w : Nat → Int32} {g : Nat → Bool} : ∀ i, yDe w g i = -1 ∨ ∃ k, k < i ∧ g k = true ∧ yDe w g i = Int32.ofNat k
  | 0 => .inl rfl
  | i + 1 => by
    show (bif _ then _ else _) = _ ∨ ∃ k, _ ∧ _ ∧ (bif _ then _ else _) = _
    cases h : g i && (decide (yDe w g i = -1) || decide (w (yDe w g i).toNatClampNeg < w i)) with
    | true => exact .inr ⟨i, by omega, by rw [Bool.and_eq_true] at h; exact h.1, rfl⟩
    | false =>
      rcases yDe_or (w := w) (g := g) i with h | ⟨k, h1, h2, h3⟩
      · exact .inl h
      · exact .inr ⟨k, by omega, h2, h3⟩
theorem c_dearestBut {d n m : Nat} {tl : List (Nat × Nat)} {q : zR} {im : zI} {w : Nat → Int32} {st : Nat → Bool} {on rt : Nat → Nat} {s : Nat → Int32} {gone : Int32} (h : zTop im n m w st on rt s) : zEv (d + 1) 58 [.ref 21, .int gone] (zMm tl q im) (some (.int (yDe w (fun i => st i && !zBt gone i) n))) (zMm tl q im) := by
  have h6 := h.1.1.1
  have h7 : im 21 7 = Int32.ofNat n := h.1.2.2.1
  have hw : ∀ i, i < n → im 22 i = w i := h.1.2.2.2.2.1
  have hst : ∀ i, i < n → im 23 i = zb (st i) := h.1.2.2.2.2.2.1
  have lp : ∀ k i, i + k = n → zX d zc_X9_dearestBut 4 [(0, .ref 21), (1, .int gone), (2, .int (yDe w (fun i => st i && !zBt gone i) i)), (3, .int (Int32.ofNat i))] [] (zMm tl q im) (fun a b => a = some (.int (yDe w (fun i => st i && !zBt gone i) n)) ∧ b = zMm tl q im) := by
    intro k
    induction k with
    | zero =>
      intro i hi
      refine t_X9_dearestBut_4 ?_
      rw [h7]
      have e : i = n := by omega
      subst e
      exact ⟨fun _ => ⟨rfl, rfl⟩, fun h => absurd ((zi_le (by omega) (by omega)).mpr (by omega)) h⟩
    | succ k ih =>
      intro i hi
      refine t_X9_dearestBut_4 ?_
      have ih := ih (i + 1) (by omega)
      rw [show yDe w (fun i => st i && !zBt gone i) (i + 1) = bif (st i && !zBt gone i) && (decide (yDe w (fun i => st i && !zBt gone i) i = -1) || decide (w (yDe w (fun i => st i && !zBt gone i) i).toNatClampNeg < w i)) then Int32.ofNat i else yDe w (fun i => st i && !zBt gone i) i from rfl] at ih
      have hor := yDe_or (w := w) (g := fun i => st i && !zBt gone i) i
      generalize yDe w (fun i => st i && !zBt gone i) i = b at ih hor ⊢
      rw [h7, zi_s, zi_n (by omega), hst i (by omega), hw i (by omega), zb_0, zBt_0]
      refine ⟨fun h => absurd ((zi_le (by omega) (by omega)).mp h) (by omega), fun _ => ⟨zi_in (by omega) (by omega), fun e => ?_, fun e => ⟨fun e2 => ?_, fun e2 => ⟨fun e3 => ?_, fun e3 => ⟨zi_in (by omega) (by omega), ?_⟩⟩⟩⟩⟩
      · rw [e] at ih
        exact ih
      · rw [Bool.not_eq_false _ |>.mp e2, Bool.not_true, Bool.and_false, Bool.false_and] at ih
        exact ih
      · rw [Bool.not_eq_false _ |>.mp e, e2, e3] at ih
        exact ih
      · rcases hor with hb | ⟨k2, hk2, _, hb⟩
        · exact absurd hb e3
        · rw [Bool.not_eq_false _ |>.mp e, e2, decide_eq_false e3] at ih
          rw [hb, zi_n (by omega), hw k2 (by omega)]
          rw [hb, zi_n (by omega)] at ih
          refine ⟨zi_in (by omega) (by omega), fun e4 => ?_, fun e4 => ?_⟩
          · rw [decide_eq_false (Int32.not_lt.mpr e4)] at ih
            exact ih
          · rw [decide_eq_true (Int32.not_le.mp e4)] at ih
            exact ih
  exact zEv_o rfl (t_X9_dearestBut (lp n 0 (by omega)))
/-- all of the set among the first i on the shore -/
def yFw (set : Int32) (s : Nat → Int32) (i : Nat) : Nat → Int32 := fun p => bif decide (p < i) && zBt set p then -1 else s p
/-- how many ways there are for them -/
def yWy (set : Int32) (n : Nat) : Nat → Int32
  | 0 => 1
  | i + 1 => bif zBt set i then yWy set n i * (Int32.ofNat n + 1) else yWy set n i
theorem yFw_s {set : Int32} {s : Nat → Int32} {i : Nat} : yFw set s (i + 1) = bif zBt set i then zSet (yFw set s i) i (-1) else yFw set s i := by
  funext p
  cases hb : zBt set i with
  | true =>
    rw [cond_true]
    by_cases e : p = i
    · subst e
      unfold yFw
      rw [zSet_eq, decide_eq_true (by omega), hb]; rfl
    · rw [zSet_ne e]
      unfold yFw
      rw [show decide (p < i + 1) = decide (p < i) from decide_eq_decide.mpr (by omega)]
  | false =>
    rw [cond_false]
    unfold yFw
    by_cases e : p = i
    · subst e
      rw [hb, Bool.and_false, Bool.and_false]
    · rw [show decide (p < i + 1) = decide (p < i) from decide_eq_decide.mpr (by omega)]
theorem c_firstWay {d n m : Nat} {tl : List (Nat × Nat)} {q : zR} {im : zI} {w : Nat → Int32} {st : Nat → Bool} {on rt : Nat → Nat} {s : Nat → Int32} {set : Int32} (h : zTop im n m w st on rt s) :
    ∃ im', zEv (d + 5) 59 [.ref 21, .int set] (zMm tl q im) (some (.int (yWy set n m))) (zMm tl q im') ∧ zTop im' n m w st on rt (yFw set s m) ∧ (∀ k, k ≠ 25 → k ≠ 32 → im' k = im k) := by
  have hm : m ≤ 4 := h.1.2.1
  have lp : ∀ k i im1, i + k = m → zTop im1 n m w st on rt (yFw set s i) → (∀ k, k ≠ 25 → k ≠ 32 → im1 k = im k) →
      ∃ im', zX (d + 4) zc_X9_firstWay 4 [(0, .ref 21), (1, .int set), (2, .int (yWy set n i)), (3, .int (Int32.ofNat i))] [] (zMm tl q im1) (fun a b => a = some (.int (yWy set n m)) ∧ b = zMm tl q im') ∧ zTop im' n m w st on rt (yFw set s m) ∧ (∀ k, k ≠ 25 → k ≠ 32 → im' k = im k) := by
    intro k
    induction k with
    | zero =>
      intro i im1 hi hT hk
      have h8 : im1 21 8 = Int32.ofNat m := hT.1.2.2.2.1
      have e : i = m := by omega
      subst e
      refine ⟨im1, t_X9_firstWay_4 ?_, hT, hk⟩
      rw [h8]
      exact ⟨fun _ => ⟨rfl, rfl⟩, fun h => absurd ((zi_le (by omega) (by omega)).mpr (by omega)) h⟩
    | succ k ih =>
      intro i im1 hi hT hk
      have h8 : im1 21 8 = Int32.ofNat m := hT.1.2.2.2.1
      have hS := yFw_s (set := set) (s := s) (i := i)
      have hW : yWy set n (i + 1) = bif zBt set i then yWy set n i * (Int32.ofNat n + 1) else yWy set n i := rfl
      cases hb : zBt set i with
      | false =>
        rw [hb, cond_false] at hS hW
        obtain ⟨im', h1, h2, h3⟩ := ih (i + 1) im1 (by omega) (by rw [hS]; exact hT) hk
        rw [hW] at h1
        refine ⟨im', t_X9_firstWay_4 ?_, h2, h3⟩
        rw [h8, zBt_1, zi_s]
        exact ⟨fun h => absurd ((zi_le (by omega) (by omega)).mp h) (by omega), fun _ => ⟨fun _ => h1, fun e => absurd e (by rw [hb]; decide)⟩⟩
      | true =>
        rw [hb, cond_true] at hS hW
        obtain ⟨im2, g1, g2, g3⟩ := c_put (d := d) (tl := tl) (q := q) (x := -1) hT (show i < m by omega)
        obtain ⟨im', h1, h2, h3⟩ := ih (i + 1) im2 (by omega) (by rw [hS]; exact g2) (fun k a b => by rw [g3 k a b, hk k a b])
        rw [hW] at h1
        have h7 : im2 21 7 = Int32.ofNat n := g2.1.2.2.1
        refine ⟨im', t_X9_firstWay_4 ?_, h2, h3⟩
        rw [h8, zBt_1, zi_s]
        refine ⟨fun h => absurd ((zi_le (by omega) (by omega)).mp h) (by omega), fun _ => ⟨fun e => absurd hb e, fun e => ⟨_, g1, ?_⟩⟩⟩
        rw [h7]
        exact h1
  obtain ⟨im', h1, h2, h3⟩ := lp m 0 im (by omega) (by
    have : yFw set s 0 = s := by funext p; unfold yFw; rw [decide_eq_false (by omega)]; rfl
    rw [this]; exact h) (fun _ _ _ => rfl)
  exact ⟨im', zEv_o rfl (t_X9_firstWay h1), h2, h3⟩
/-- the next way: of the first p, the last turns first -/
def yNx (set : Int32) (n : Nat) : Nat → (Nat → Int32) → Nat → Int32
  | 0, s => s
  | p + 1, s => bif zBt set p then (if Int32.ofNat n ≤ s p + 1 then yNx set n p (zSet s p (-1)) else zSet s p (s p + 1)) else yNx set n p s
theorem c_nextWay {d n m : Nat} {tl : List (Nat × Nat)} {q : zR} {im : zI} {w : Nat → Int32} {st : Nat → Bool} {on rt : Nat → Nat} {s : Nat → Int32} {set : Int32} (h : zTop im n m w st on rt s) :
    ∃ im', zEv (d + 5) 60 [.ref 21, .int set] (zMm tl q im) none (zMm tl q im') ∧ zTop im' n m w st on rt (yNx set n m s) ∧ (∀ k, k ≠ 25 → k ≠ 32 → im' k = im k) := by
  have hm : m ≤ 4 := h.1.2.1
  have lp : ∀ p s1 im1, p ≤ m → zTop im1 n m w st on rt s1 → (∀ k, k ≠ 25 → k ≠ 32 → im1 k = im k) →
      ∃ im', zX (d + 4) zc_X9_nextWay 5 [(0, .ref 21), (1, .int set), (2, .int (Int32.ofNat p - 1))] [] (zMm tl q im1) (fun a b => a = none ∧ b = zMm tl q im') ∧ zTop im' n m w st on rt (yNx set n p s1) ∧ (∀ k, k ≠ 25 → k ≠ 32 → im' k = im k) := by
    intro p
    induction p with
    | zero =>
      intro s1 im1 hp hT hk
      exact ⟨im1, t_X9_nextWay_5 ⟨fun _ => ⟨rfl, rfl⟩, fun h => absurd (by decide) h⟩, hT, hk⟩
    | succ p ih =>
      intro s1 im1 hp hT hk
      have h7 : im1 21 7 = Int32.ofNat n := hT.1.2.2.1
      have hs : ∀ q, q < m → im1 25 q = s1 q := hT.1.2.2.2.2.2.2.2
      have hN : yNx set n (p + 1) s1 = bif zBt set p then (if Int32.ofNat n ≤ s1 p + 1 then yNx set n p (zSet s1 p (-1)) else zSet s1 p (s1 p + 1)) else yNx set n p s1 := rfl
      have hd : Int32.ofNat (p + 1) - 1 = Int32.ofNat p := zi_p (by omega)
      have hd2 : Int32.ofNat p + (-1) = Int32.ofNat p - 1 := (Int32.sub_eq_add_neg _ _).symm
      rw [hd, hN]
      cases hb : zBt set p with
      | false =>
        rw [cond_false]
        obtain ⟨im', h1, h2, h3⟩ := ih s1 im1 (by omega) hT hk
        refine ⟨im', t_X9_nextWay_5 ?_, h2, h3⟩
        rw [zBt_0, hb, hd2]
        exact ⟨fun h => absurd h (zi_neg (by omega)), fun _ => ⟨fun e => absurd rfl e, fun _ => h1⟩⟩
      | true =>
        rw [cond_true]
        by_cases hl : Int32.ofNat n ≤ s1 p + 1
        · rw [if_pos hl]
          obtain ⟨im2, g1, g2, g3⟩ := c_put (d := d) (tl := tl) (q := q) (x := -1) hT (show p < m by omega)
          obtain ⟨im', h1, h2, h3⟩ := ih (zSet s1 p (-1)) im2 (by omega) g2 (fun k a b => by rw [g3 k a b, hk k a b])
          refine ⟨im', t_X9_nextWay_5 ?_, h2, h3⟩
          rw [zBt_0, hb, hd2, zi_n (by omega), hs p (by omega), h7]
          exact ⟨fun h => absurd h (zi_neg (by omega)), fun _ => ⟨fun e => ⟨zi_in (by omega) (by omega), fun _ => ⟨_, g1, h1⟩, fun e => absurd hl e⟩, fun e => Bool.noConfusion e⟩⟩
        · rw [if_neg hl]
          obtain ⟨im2, g1, g2, g3⟩ := c_put (d := d) (tl := tl) (q := q) (x := s1 p + 1) hT (show p < m by omega)
          refine ⟨im2, t_X9_nextWay_5 ?_, g2, fun k a b => by rw [g3 k a b, hk k a b]⟩
          rw [zBt_0, hb, hd2, zi_n (by omega), hs p (by omega), h7]
          exact ⟨fun h => absurd h (zi_neg (by omega)), fun _ => ⟨fun e => ⟨zi_in (by omega) (by omega), fun e => absurd e hl, fun _ => ⟨zi_in (by omega) (by omega), _, g1, rfl, rfl⟩⟩, fun e => Bool.noConfusion e⟩⟩
  obtain ⟨im', h1, h2, h3⟩ := lp m s im (Nat.le_refl m) h (fun _ _ _ => rfl)
  refine ⟨im', zEv_o rfl (t_X9_nextWay ?_), h2, h3⟩
  rw [h.1.2.2.2.1]
  exact h1
/-- the digits of a set -/
def yDg (set : Int32) (s : Nat → Int32) : Nat → Int32
  | 0 => 0
  | p + 1 => bif zBt set p then yDg set s p * 10 + s p + 1 else yDg set s p
theorem c_digitsOf {d n m : Nat} {tl : List (Nat × Nat)} {q : zR} {im : zI} {w : Nat → Int32} {st : Nat → Bool} {on rt : Nat → Nat} {s : Nat → Int32} {set : Int32} (h : zTop im n m w st on rt s) : zEv (d + 1) 61 [.ref 21, .int set] (zMm tl q im) (some (.int (yDg set s m))) (zMm tl q im) := by
  have hm : m ≤ 4 := h.1.2.1
  have h8 : im 21 8 = Int32.ofNat m := h.1.2.2.2.1
  have hs : ∀ q, q < m → im 25 q = s q := h.1.2.2.2.2.2.2.2
  have lp : ∀ k i, i + k = m → zX d zc_X9_digitsOf 4 [(0, .ref 21), (1, .int set), (2, .int (yDg set s i)), (3, .int (Int32.ofNat i))] [] (zMm tl q im) (fun a b => a = some (.int (yDg set s m)) ∧ b = zMm tl q im) := by
    intro k
    induction k with
    | zero =>
      intro i hi
      refine t_X9_digitsOf_4 ?_
      rw [h8]
      have e : i = m := by omega
      subst e
      exact ⟨fun _ => ⟨rfl, rfl⟩, fun h => absurd ((zi_le (by omega) (by omega)).mpr (by omega)) h⟩
    | succ k ih =>
      intro i hi
      refine t_X9_digitsOf_4 ?_
      have ih := ih (i + 1) (by omega)
      rw [show yDg set s (i + 1) = bif zBt set i then yDg set s i * 10 + s i + 1 else yDg set s i from rfl] at ih
      rw [h8, zBt_1, zi_s, zi_n (by omega), hs i (by omega)]
      refine ⟨fun h => absurd ((zi_le (by omega) (by omega)).mp h) (by omega), fun _ => ⟨fun e => ?_, fun e => ⟨zi_in (by omega) (by omega), ?_⟩⟩⟩
      · rw [Bool.eq_false_iff.mpr e] at ih
        exact ih
      · rw [e] at ih
        exact ih
  refine zEv_o rfl (t_X9_digitsOf (lp m 0 (by omega)))
