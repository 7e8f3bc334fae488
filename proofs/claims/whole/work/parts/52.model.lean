/-! MODEL: its top of a tide -/
def yMo (im : zI) (n m : Nat) (w : Nat → Int32) (st : Nat → Bool) (on rt : Nat → Nat) (s : Nat → Int32) : Prop :=
  zRt n on rt ∧ m ≤ 4 ∧ im 47 1 = Int32.ofNat n ∧ im 47 6 = Int32.ofNat m ∧ (∀ i, i < n → zBt (im 47 36) i = st i) ∧ (∀ i, i < n → im 67 i = Int32.ofNat (on i)) ∧ (∀ i, i < n → im 68 i = w i) ∧
  (∀ p, p < m → im 69 p = s p) ∧ (∀ p, p < m → s p = -1 ∨ ∃ k, k < n ∧ s p = Int32.ofNat k)
theorem m_isThere {d n m p : Nat} {tl : List (Nat × Nat)} {q : zR} {im : zI} {w : Nat → Int32} {st : Nat → Bool} {on rt : Nat → Nat} {s : Nat → Int32} (h : yMo im n m w st on rt s) (hp : p < m) : zEv (d + 1) 174 [.ref 47, .int (Int32.ofNat p)] (zMm tl q im) (some (.int (zb (zTh n st (s p))))) (zMm tl q im) := by
  obtain ⟨hR, hm, h1, h6, hst, hon, hw, hs, hv⟩ := h
  have hn := hR.1
  refine zEv_o rfl (t_X12_isThere ⟨zi_in (by omega) (by omega), ?_⟩)
  rw [zi_n (by omega), hs p hp]
  rcases hv p hp with e | ⟨k, hk, e⟩
  · rw [e, zTh_m1]
    exact ⟨fun _ => ⟨rfl, rfl⟩, fun h => absurd rfl h⟩
  · rw [e, zTh_of hn hk, zBt_1, hst k hk]
    refine ⟨fun h => absurd h (zi_m1 (by omega)), fun _ => ⟨zi_in (by omega) (by omega), fun h => ⟨?_, rfl⟩, fun h => ⟨?_, rfl⟩⟩⟩
    · rw [Bool.eq_false_iff.mpr h]; rfl
    · rw [h]; rfl
theorem m_owner {d n m i : Nat} {tl : List (Nat × Nat)} {q : zR} {im : zI} {w : Nat → Int32} {st : Nat → Bool} {on rt : Nat → Nat} {s : Nat → Int32} (h : yMo im n m w st on rt s) (hi : i < n) : zEv (d + 2) 175 [.ref 47, .int (Int32.ofNat i)] (zMm tl q im) (some (.int (zOwn n m st rt s i))) (zMm tl q im) := by
  have h0 := h
  obtain ⟨hR, hm, h1, h6, hst, hon, hw, hs, hv⟩ := h
  have hn := hR.1
  obtain ⟨r1, r2, r3, r4, r5, r6⟩ := hR.2 i hi
  have lp : ∀ k p, p + k = m → zX (d + 1) zc_X12_owner 6 [(0, .ref 47), (1, .int (Int32.ofNat i)), (2, .int (yLa (fun q => zIs n st rt (rt i) (s q)) p)), (3, .int (Int32.ofNat (zCnt p (fun q => zIs n st rt (rt i) (s q))))), (4, .int (Int32.ofNat p))] [] (zMm tl q im) (fun a b => a = some (.int (zOwn n m st rt s i)) ∧ b = zMm tl q im) := by
    intro k
    induction k with
    | zero =>
      intro p hp
      have e : p = m := by omega
      subst e
      refine t_X12_owner_6 ?_
      rw [h6, zOwn_la]
      have hc : zCnt p (fun q => zIs n st rt (rt i) (s q)) ≤ p := zCnt_le
      refine ⟨fun _ => ?_, fun h => absurd ((zi_le (by omega) (by omega)).mpr (by omega)) h⟩
      show (¬ Int32.ofNat _ = Int32.ofNat 1 → _) ∧ (Int32.ofNat _ = Int32.ofNat 1 → _)
      rw [zi_eq (by omega) (by omega)]
      refine ⟨fun h => ⟨?_, rfl⟩, fun h => ⟨?_, rfl⟩⟩
      · rw [if_neg (show ¬ zCr n p st rt s (rt i) = 1 from h)]
      · rw [if_pos (show zCr n p st rt s (rt i) = 1 from h)]
    | succ k ih =>
      intro p hp
      have ih := ih (p + 1) (by omega)
      rw [show yLa (fun q => zIs n st rt (rt i) (s q)) (p + 1) = bif zIs n st rt (rt i) (s p) then Int32.ofNat p else yLa (fun q => zIs n st rt (rt i) (s q)) p from rfl,
        show zCnt (p + 1) (fun q => zIs n st rt (rt i) (s q)) = zCnt p (fun q => zIs n st rt (rt i) (s q)) + (bif zIs n st rt (rt i) (s p) then 1 else 0) from rfl] at ih
      refine t_X12_owner_6 ?_
      rw [h6, zi_s]
      refine ⟨fun h => absurd ((zi_le (by omega) (by omega)).mp h) (by omega), fun _ => ⟨_, _, m_isThere h0 (by omega), ?_⟩⟩
      rw [zb_0]
      refine ⟨fun e => ?_, fun e => ⟨zi_in (by omega) (by omega), zi_in (by omega) (by omega), ?_⟩⟩
      · have hz : zIs n st rt (rt i) (s p) = false := by unfold zIs; rw [e]; rfl
        rw [hz, cond_false, cond_false, Nat.add_zero] at ih
        rw [Int32.add_zero]
        exact ih
      · have hT : zTh n st (s p) = true := Bool.not_eq_false _ |>.mp e
        obtain ⟨x, hx, ex, _⟩ := zTh_ex hn hT
        have hz : zIs n st rt (rt i) (s p) = decide (rt x = rt i) := by unfold zIs; rw [hT, ex, zi_n (by omega), Bool.true_and]
        rw [zi_n (by omega), zi_n (by omega), hon i hi, hs p (by omega), ex, zBt_1, zBt_nat ⟨on i, r2⟩ ⟨x, by omega⟩, r6 x, decide_eq_true hx, Bool.true_and, decide_eq_true_eq]
        refine ⟨fun e2 => ?_, fun e2 => ?_⟩
        · rw [hz, decide_eq_false e2, cond_false, cond_false, Nat.add_zero] at ih
          rw [Int32.add_zero]
          exact ih
        · rw [hz, decide_eq_true e2, cond_true, cond_true] at ih
          rw [zi_s]
          exact ih
  exact zEv_o rfl (t_X12_owner (lp m 0 (by omega)))
theorem m_gainOf {d n m p : Nat} {tl : List (Nat × Nat)} {q : zR} {im : zI} {w : Nat → Int32} {st : Nat → Bool} {on rt : Nat → Nat} {s : Nat → Int32} (h : yMo im n m w st on rt s) (hp : p < m) : zEv (d + 3) 176 [.ref 47, .int (Int32.ofNat p)] (zMm tl q im) (some (.int (zGa n m w st rt s p (s p)))) (zMm tl q im) := by
  have h0 := h
  obtain ⟨hR, hm, h1, h6, hst, hon, hw, hs, hv⟩ := h
  have hn := hR.1
  rw [← yGm_ga hm hp]
  have lp : ∀ k i, i + k = n → zX (d + 2) zc_X12_gainOf 4 [(0, .ref 47), (1, .int (Int32.ofNat p)), (2, .int (zSum i (fun i => bif st i && decide (zOwn n m st rt s i = Int32.ofNat p) then w i else 0))), (3, .int (Int32.ofNat i))] [] (zMm tl q im) (fun a b => a = some (.int (yGm n m w st rt s p)) ∧ b = zMm tl q im) := by
    intro k
    induction k with
    | zero =>
      intro i hi
      have e : i = n := by omega
      subst e
      refine t_X12_gainOf_4 ?_
      rw [h1]
      exact ⟨fun _ => ⟨rfl, rfl⟩, fun h => absurd ((zi_le (by omega) (by omega)).mpr (by omega)) h⟩
    | succ k ih =>
      intro i hi
      have ih := ih (i + 1) (by omega)
      rw [show zSum (i + 1) (fun i => bif st i && decide (zOwn n m st rt s i = Int32.ofNat p) then w i else 0) = zSum i (fun i => bif st i && decide (zOwn n m st rt s i = Int32.ofNat p) then w i else 0) + (bif st i && decide (zOwn n m st rt s i = Int32.ofNat p) then w i else 0) from rfl] at ih
      refine t_X12_gainOf_4 ?_
      rw [h1, zi_s, zBt_1, hst i (by omega)]
      refine ⟨fun h => absurd ((zi_le (by omega) (by omega)).mp h) (by omega), fun _ => ⟨fun e => ?_, fun e => ⟨_, _, m_owner h0 (by omega), fun e2 => ?_, fun e2 => ⟨zi_in (by omega) (by omega), ?_⟩⟩⟩⟩
      · rw [Bool.eq_false_iff.mpr e, Bool.false_and, cond_false] at ih
        exact ih
      · rw [e, decide_eq_false e2, Bool.true_and, cond_false] at ih
        exact ih
      · rw [e, decide_eq_true e2, Bool.true_and, cond_true] at ih
        rw [zi_n (by omega), hw i (by omega)]
        exact ih
  exact zEv_o rfl (t_X12_gainOf (lp n 0 (by omega)))
