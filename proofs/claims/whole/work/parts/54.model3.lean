/-! MODEL: the first way -/
theorem m_begins {d n m : Nat} {tl : List (Nat × Nat)} {q : zR} {im : zI} {w : Nat → Int32} {st : Nat → Bool} {on rt : Nat → Nat} {s : Nat → Int32} {set : Int32} (h : yMo im n m w st on rt s) :
    ∃ im', zEv (d + 1) 189 [.ref 47, .int set] (zMm tl q im) none (zMm tl q im') ∧ yMo im' n m w st on rt (yFw set s m) ∧ (∀ k, k ≠ 69 → im' k = im k) := by
  have hm : m ≤ 4 := h.2.1
  have lp : ∀ k i im1, i + k = m → yMo im1 n m w st on rt (yFw set s i) → (∀ k, k ≠ 69 → im1 k = im k) →
      ∃ im', zX d zc_X12_begins 2 [(0, .ref 47), (1, .int set), (2, .int (Int32.ofNat i))] [] (zMm tl q im1) (fun a b => a = none ∧ b = zMm tl q im') ∧ yMo im' n m w st on rt (yFw set s m) ∧ (∀ k, k ≠ 69 → im' k = im k) := by
    intro k
    induction k with
    | zero =>
      intro i im1 hi hT hk
      have h8 : im1 47 6 = Int32.ofNat m := hT.2.2.2.1
      have e : i = m := by omega
      subst e
      refine ⟨im1, t_X12_begins_2 ?_, hT, hk⟩
      rw [h8]
      exact ⟨fun _ => ⟨rfl, rfl⟩, fun h => absurd ((zi_le (by omega) (by omega)).mpr (by omega)) h⟩
    | succ k ih =>
      intro i im1 hi hT hk
      have h8 : im1 47 6 = Int32.ofNat m := hT.2.2.2.1
      have hS := yFw_s (set := set) (s := s) (i := i)
      cases hb : zBt set i with
      | false =>
        rw [hb, cond_false] at hS
        have e0 : up2 im1 69 i (im1 69 i) = im1 := by
          funext a b
          unfold up2
          by_cases e1 : a = 69
          · by_cases e2 : b = i
            · simp [e1, e2]
            · simp [e1, e2]
          · simp [e1]
        obtain ⟨im', h1, h2, h3⟩ := ih (i + 1) im1 (by omega) (by rw [hS]; exact hT) hk
        refine ⟨im', t_X12_begins_2 ?_, h2, h3⟩
        rw [h8, zBt_1, zi_s, zi_n (by omega), e0]
        exact ⟨fun h => absurd ((zi_le (by omega) (by omega)).mp h) (by omega), fun _ => ⟨fun _ => ⟨zi_in (by omega) (by omega), zi_in (by omega) (by omega), h1⟩, fun e => absurd e (by rw [hb]; decide)⟩⟩
      | true =>
        rw [hb, cond_true] at hS
        obtain ⟨im', h1, h2, h3⟩ := ih (i + 1) (up2 im1 69 i (-1)) (by omega) (by rw [hS]; exact yMo_put hT (.inl rfl)) (fun k a => by rw [up_r a, hk k a])
        refine ⟨im', t_X12_begins_2 ?_, h2, h3⟩
        rw [h8, zBt_1, zi_s, zi_n (by omega)]
        exact ⟨fun h => absurd ((zi_le (by omega) (by omega)).mp h) (by omega), fun _ => ⟨fun e => absurd hb e, fun e => ⟨zi_in (by omega) (by omega), h1⟩⟩⟩
  obtain ⟨im', h1, h2, h3⟩ := lp m 0 im (by omega) (by
    have : yFw set s 0 = s := by funext p; unfold yFw; rw [decide_eq_false (by omega)]; rfl
    rw [this]; exact h) (fun _ _ => rfl)
  exact ⟨im', zEv_o rfl (t_X12_begins h1), h2, h3⟩
