/-! MODEL: its ways -/
theorem yMo_mv {n m : Nat} {im im' : zI} {w : Nat → Int32} {st : Nat → Bool} {on rt : Nat → Nat} {s s' : Nat → Int32} (h : yMo im n m w st on rt s) (hk : ∀ k, k ≠ 69 → im' k = im k) (hs : ∀ p, p < m → im' 69 p = s' p) (hv : ∀ p, p < m → s' p = -1 ∨ ∃ k, k < n ∧ s' p = Int32.ofNat k) : yMo im' n m w st on rt s' := by
  obtain ⟨hR, hm, h1, h6, hst, hon, hw, _, _⟩ := h
  unfold yMo
  rw [hk 47 (by decide), hk 67 (by decide), hk 68 (by decide)]
  exact ⟨hR, hm, h1, h6, hst, hon, hw, hs, hv⟩
theorem yMo_put {n m p : Nat} {im : zI} {w : Nat → Int32} {st : Nat → Bool} {on rt : Nat → Nat} {s : Nat → Int32} {x : Int32} (h : yMo im n m w st on rt s) (hx : x = -1 ∨ ∃ k, k < n ∧ x = Int32.ofNat k) : yMo (up2 im 69 p x) n m w st on rt (zSet s p x) := by
  have hs := h.2.2.2.2.2.2.2.1
  have hv := h.2.2.2.2.2.2.2.2
  refine yMo_mv h (fun k hk => up_r hk) (fun q hq => ?_) (fun q hq => ?_)
  · by_cases e : q = p
    · subst e; rw [up_eq, zSet_eq]
    · rw [up_j e, zSet_ne e, hs q hq]
  · by_cases e : q = p
    · subst e; rw [zSet_eq]; exact hx
    · rw [zSet_ne e]; exact hv q hq
/-- whether there is a next way -/
def yNf (set : Int32) (n : Nat) : Nat → (Nat → Int32) → Bool
  | 0, _ => false
  | p + 1, s => bif zBt set p then (if Int32.ofNat n ≤ s p + 1 then yNf set n p (zSet s p (-1)) else true) else yNf set n p s
theorem m_next0 {d n m : Nat} {tl : List (Nat × Nat)} {q : zR} {im : zI} {w : Nat → Int32} {st : Nat → Bool} {on rt : Nat → Nat} {s : Nat → Int32} {set : Int32} (h : yMo im n m w st on rt s) :
    ∃ im', zEv (d + 1) 188 [.ref 47, .int set] (zMm tl q im) (some (.int (zb (yNf set n m s)))) (zMm tl q im') ∧ yMo im' n m w st on rt (yNx set n m s) ∧ (∀ k, k ≠ 69 → im' k = im k) := by
  have hm : m ≤ 4 := h.2.1
  have lp : ∀ p s1 im1, p ≤ m → yMo im1 n m w st on rt s1 → (∀ k, k ≠ 69 → im1 k = im k) →
      ∃ im', zX d zc_X12_next0 5 [(0, .ref 47), (1, .int set), (2, .int (Int32.ofNat p - 1))] [] (zMm tl q im1) (fun a b => a = some (.int (zb (yNf set n p s1))) ∧ b = zMm tl q im') ∧ yMo im' n m w st on rt (yNx set n p s1) ∧ (∀ k, k ≠ 69 → im' k = im k) := by
    intro p
    induction p with
    | zero =>
      intro s1 im1 hp hT hk
      exact ⟨im1, t_X12_next0_5 ⟨fun _ => ⟨rfl, rfl⟩, fun h => absurd (by decide) h⟩, hT, hk⟩
    | succ p ih =>
      intro s1 im1 hp hT hk
      have hn := hT.1.1
      have h1 : im1 47 1 = Int32.ofNat n := hT.2.2.1
      have hs : ∀ q, q < m → im1 69 q = s1 q := hT.2.2.2.2.2.2.2.1
      have hv := hT.2.2.2.2.2.2.2.2 p (by omega)
      have hN : yNx set n (p + 1) s1 = bif zBt set p then (if Int32.ofNat n ≤ s1 p + 1 then yNx set n p (zSet s1 p (-1)) else zSet s1 p (s1 p + 1)) else yNx set n p s1 := rfl
      have hF : yNf set n (p + 1) s1 = bif zBt set p then (if Int32.ofNat n ≤ s1 p + 1 then yNf set n p (zSet s1 p (-1)) else true) else yNf set n p s1 := rfl
      have hd : Int32.ofNat (p + 1) - 1 = Int32.ofNat p := zi_p (by omega)
      have hd2 : Int32.ofNat p + (-1) = Int32.ofNat p - 1 := (Int32.sub_eq_add_neg _ _).symm
      rw [hd, hN, hF]
      cases hb : zBt set p with
      | false =>
        rw [cond_false, cond_false]
        obtain ⟨im', g1, g2, g3⟩ := ih s1 im1 (by omega) hT hk
        refine ⟨im', t_X12_next0_5 ?_, g2, g3⟩
        rw [zBt_1, hb, hd2]
        exact ⟨fun h => absurd h (zi_neg (by omega)), fun _ => ⟨fun _ => g1, fun e => Bool.noConfusion e⟩⟩
      | true =>
        rw [cond_true, cond_true]
        by_cases hl : Int32.ofNat n ≤ s1 p + 1
        · rw [if_pos hl, if_pos hl]
          have e3 : up2 (up2 im1 69 p (s1 p + 1)) 69 p (-1) = up2 im1 69 p (-1) := by
            funext a b
            unfold up2
            by_cases e1 : a = 69
            · by_cases e2 : b = p
              · simp [e1, e2]
              · simp [e1, e2]
            · simp [e1]
          obtain ⟨im', g1, g2, g3⟩ := ih (zSet s1 p (-1)) (up2 im1 69 p (-1)) (by omega) (yMo_put hT (.inl rfl)) (fun k hk2 => by rw [up_r hk2, hk k hk2])
          refine ⟨im', t_X12_next0_5 ?_, g2, g3⟩
          rw [zBt_1, hb, hd2, zi_n (by omega), up_eq, hs p (by omega), h1, e3]
          exact ⟨fun h => absurd h (zi_neg (by omega)), fun _ => ⟨fun e => absurd rfl e, fun e => ⟨zi_in (by omega) (by omega), zi_in (by omega) (by omega), zi_in (by omega) (by omega), fun _ => ⟨zi_in (by omega) (by omega), g1⟩, fun e => absurd hl e⟩⟩⟩
        · rw [if_neg hl, if_neg hl]
          have hx : s1 p + 1 = -1 ∨ ∃ k, k < n ∧ s1 p + 1 = Int32.ofNat k := by
            rcases hv with e | ⟨k, hk, e⟩
            · rw [e] at hl
              refine .inr ⟨0, ?_, by rw [e]; decide⟩
              by_cases h0 : n = 0
              · subst h0; exact absurd (by decide) hl
              · omega
            · rw [e, zi_s, zi_le (by omega) (by omega)] at hl
              exact .inr ⟨k + 1, by omega, by rw [e, zi_s]⟩
          refine ⟨up2 im1 69 p (s1 p + 1), t_X12_next0_5 ?_, yMo_put hT hx, fun k hk2 => by rw [up_r hk2, hk k hk2]⟩
          rw [zBt_1, hb, hd2, zi_n (by omega), up_eq, hs p (by omega), h1]
          exact ⟨fun h => absurd h (zi_neg (by omega)), fun _ => ⟨fun e => absurd rfl e, fun e => ⟨zi_in (by omega) (by omega), zi_in (by omega) (by omega), zi_in (by omega) (by omega), fun e => absurd e hl, fun _ => ⟨rfl, rfl⟩⟩⟩⟩
  obtain ⟨im', g1, g2, g3⟩ := lp m s im (Nat.le_refl m) h (fun _ _ => rfl)
  refine ⟨im', zEv_o rfl (t_X12_next0 ?_), g2, g3⟩
  rw [h.2.2.2.1]
  exact g1
theorem m_digits {d n m : Nat} {tl : List (Nat × Nat)} {q : zR} {im : zI} {w : Nat → Int32} {st : Nat → Bool} {on rt : Nat → Nat} {s : Nat → Int32} {set : Int32} (h : yMo im n m w st on rt s) : zEv (d + 1) 190 [.ref 47, .int set] (zMm tl q im) (some (.int (yDg set s m))) (zMm tl q im) := by
  have hm : m ≤ 4 := h.2.1
  have h8 : im 47 6 = Int32.ofNat m := h.2.2.2.1
  have hs : ∀ q, q < m → im 69 q = s q := h.2.2.2.2.2.2.2.1
  have lp : ∀ k i, i + k = m → zX d zc_X12_digits 4 [(0, .ref 47), (1, .int set), (2, .int (yDg set s i)), (3, .int (Int32.ofNat i))] [] (zMm tl q im) (fun a b => a = some (.int (yDg set s m)) ∧ b = zMm tl q im) := by
    intro k
    induction k with
    | zero =>
      intro i hi
      refine t_X12_digits_4 ?_
      rw [h8]
      have e : i = m := by omega
      subst e
      exact ⟨fun _ => ⟨rfl, rfl⟩, fun h => absurd ((zi_le (by omega) (by omega)).mpr (by omega)) h⟩
    | succ k ih =>
      intro i hi
      refine t_X12_digits_4 ?_
      have ih := ih (i + 1) (by omega)
      rw [show yDg set s (i + 1) = bif zBt set i then yDg set s i * 10 + s i + 1 else yDg set s i from rfl] at ih
      rw [h8, zBt_1, zi_s, zi_n (by omega), hs i (by omega)]
      refine ⟨fun h => absurd ((zi_le (by omega) (by omega)).mp h) (by omega), fun _ => ⟨fun e => ?_, fun e => ⟨zi_in (by omega) (by omega), ?_⟩⟩⟩
      · rw [Bool.eq_false_iff.mpr e] at ih
        exact ih
      · rw [e, cond_true, Int32.mul_comm] at ih
        exact ih
  refine zEv_o rfl (t_X12_digits (lp m 0 (by omega)))
theorem m_dearest {d n m : Nat} {tl : List (Nat × Nat)} {q : zR} {im : zI} {w : Nat → Int32} {st : Nat → Bool} {on rt : Nat → Nat} {s : Nat → Int32} {left : Int32} (h : yMo im n m w st on rt s) : zEv (d + 1) 198 [.ref 47, .int left] (zMm tl q im) (some (.int (yDe w (fun i => zBt left i) n))) (zMm tl q im) := by
  have h6 := h.1.1
  have h7 : im 47 1 = Int32.ofNat n := h.2.2.1
  have hw : ∀ i, i < n → im 68 i = w i := h.2.2.2.2.2.2.1
  have lp : ∀ k i, i + k = n → zX d zc_X12_dearest 4 [(0, .ref 47), (1, .int left), (2, .int (yDe w (fun i => zBt left i) i)), (3, .int (Int32.ofNat i))] [] (zMm tl q im) (fun a b => a = some (.int (yDe w (fun i => zBt left i) n)) ∧ b = zMm tl q im) := by
    intro k
    induction k with
    | zero =>
      intro i hi
      refine t_X12_dearest_4 ?_
      rw [h7]
      have e : i = n := by omega
      subst e
      exact ⟨fun _ => ⟨rfl, rfl⟩, fun h => absurd ((zi_le (by omega) (by omega)).mpr (by omega)) h⟩
    | succ k ih =>
      intro i hi
      refine t_X12_dearest_4 ?_
      have ih := ih (i + 1) (by omega)
      rw [show yDe w (fun i => zBt left i) (i + 1) = bif zBt left i && (decide (yDe w (fun i => zBt left i) i = -1) || decide (w (yDe w (fun i => zBt left i) i).toNatClampNeg < w i)) then Int32.ofNat i else yDe w (fun i => zBt left i) i from rfl] at ih
      have hor := yDe_or (w := w) (g := fun i => zBt left i) i
      generalize yDe w (fun i => zBt left i) i = b at ih hor ⊢
      rw [h7, zi_s, zi_n (by omega), hw i (by omega), zBt_1]
      refine ⟨fun h => absurd ((zi_le (by omega) (by omega)).mp h) (by omega), fun _ => ⟨fun e => ?_, fun e => ⟨fun e3 => ?_, fun e3 => ⟨zi_in (by omega) (by omega), ?_⟩⟩⟩⟩
      · rw [Bool.eq_false_iff.mpr e] at ih
        exact ih
      · rw [e, e3] at ih
        exact ih
      · rcases hor with hb | ⟨k2, hk2, _, hb⟩
        · exact absurd hb e3
        · rw [e, decide_eq_false e3] at ih
          rw [hb, zi_n (by omega), hw k2 (by omega)]
          rw [hb, zi_n (by omega)] at ih
          refine ⟨zi_in (by omega) (by omega), fun e4 => ?_, fun e4 => ?_⟩
          · rw [decide_eq_false (Int32.not_lt.mpr e4)] at ih
            exact ih
          · rw [decide_eq_true (Int32.not_le.mp e4)] at ih
            exact ih
  exact zEv_o rfl (t_X12_dearest (lp n 0 (by omega)))
