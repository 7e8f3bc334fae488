/-! TOP, on: fill, clear, unite, sums -/
theorem c_fill {d a len : Nat} {tl : List (Nat × Nat)} {q : zR} {im : zI} {v : Int32} (ha : (zB ++ tl)[a]? = some (20, len)) (hl : len < 2147483648) :
    ∃ im', zEv (d + 1) 224 [.ref a, .int v] (zMm tl q im) none (zMm tl q im') ∧ (∀ i, i < len → im' a i = v) ∧ (∀ k, k ≠ a → im' k = im k) := by
  have lp : ∀ k i im1, i + k = len → (∀ j, j < i → im1 a j = v) → (∀ k, k ≠ a → im1 k = im k) →
      ∃ im', zX d zc_J7_fill_53178 5 [(0, .ref a), (1, .int v), (2, .int (Int32.ofNat i)), (3, .int (Int32.ofNat len))] [] (zMm tl q im1) (fun x b => x = none ∧ b = zMm tl q im') ∧ (∀ i, i < len → im' a i = v) ∧ (∀ k, k ≠ a → im' k = im k) := by
    intro k
    induction k with
    | zero =>
      intro i im1 hi h1 h2
      have e : i = len := by omega
      subst e
      exact ⟨im1, t_J7_fill_53178_5 ⟨fun _ => ⟨rfl, rfl⟩, fun h => absurd ((zi_le (by omega) (by omega)).mpr (by omega)) h⟩, h1, h2⟩
    | succ k ih =>
      intro i im1 hi h1 h2
      obtain ⟨im', g1, g2, g3⟩ := ih (i + 1) (up2 im1 a i v) (by omega) (fun j hj => by
        by_cases e : j = i
        · subst e; exact up_eq
        · rw [up_j e]; exact h1 j (by omega)) (fun k hk => by rw [up_r hk]; exact h2 k hk)
      refine ⟨im', t_J7_fill_53178_5 ?_, g2, g3⟩
      rw [ha, zi_s, zi_n (by omega)]
      exact ⟨fun h => absurd ((zi_le (by omega) (by omega)).mp h) (by omega), fun _ => ⟨zi_in (show i < len by omega) (by omega), g1⟩⟩
  obtain ⟨im', h1, h2, h3⟩ := lp len 0 im (by omega) (fun j hj => absurd hj (by omega)) (fun _ _ => rfl)
  refine ⟨im', zEv_o rfl (t_J7_fill_53178 ?_), h2, h3⟩
  rw [ha]
  exact h1
theorem zi_sh : ∀ i : Fin 12, (1 : Int32) <<< (Int32.ofNat i.1 &&& 31) = Int32.ofNat (2 ^ i.1) := by decide +kernel
theorem c_clear {d n m : Nat} {tl : List (Nat × Nat)} {q : zR} {im : zI} :
    ∃ im', zEv (d + 2) 43 [.ref 21, .int (Int32.ofNat n), .int (Int32.ofNat m)] (zMm tl q im) none (zMm tl q im') ∧ im' 21 7 = Int32.ofNat n ∧ im' 21 8 = Int32.ofNat m ∧ (∀ i, i < 6 → im' 24 i = Int32.ofNat (2 ^ i)) ∧ (∀ i, i < 6 → im' 31 i = 0) ∧ (∀ i, i < 6 → im' 32 i = 0) ∧ (∀ i, i < 4 → im' 25 i = -1) ∧
      (∀ k, k ≠ 21 → k ≠ 24 → k ≠ 25 → k ≠ 31 → k ≠ 32 → im' k = im k) := by
  have lp : ∀ k i im1, i + k = 6 → im1 21 7 = Int32.ofNat n → im1 21 8 = Int32.ofNat m → (∀ j, j < i → im1 24 j = Int32.ofNat (2 ^ j)) → (∀ j, j < i → im1 31 j = 0) → (∀ j, j < i → im1 32 j = 0) → (∀ k, k ≠ 21 → k ≠ 24 → k ≠ 25 → k ≠ 31 → k ≠ 32 → im1 k = im k) →
      ∃ im', zX (d + 1) zc_X9_clear 8 [(0, .ref 21), (1, .int (Int32.ofNat n)), (2, .int (Int32.ofNat m)), (3, .int (Int32.ofNat i))] [] (zMm tl q im1) (fun x b => x = none ∧ b = zMm tl q im') ∧ im' 21 7 = Int32.ofNat n ∧ im' 21 8 = Int32.ofNat m ∧ (∀ i, i < 6 → im' 24 i = Int32.ofNat (2 ^ i)) ∧ (∀ i, i < 6 → im' 31 i = 0) ∧ (∀ i, i < 6 → im' 32 i = 0) ∧ (∀ i, i < 4 → im' 25 i = -1) ∧
      (∀ k, k ≠ 21 → k ≠ 24 → k ≠ 25 → k ≠ 31 → k ≠ 32 → im' k = im k) := by
    intro k
    induction k with
    | zero =>
      intro i im1 hi h7 h8 h1 h2 h3 h4
      have e : i = 6 := by omega
      subst e
      obtain ⟨im', g1, g2, g3⟩ := c_fill (d := d) (a := 25) (len := 4) (tl := tl) (q := q) (im := im1) (v := -1) rfl (by omega)
      refine ⟨im', t_X9_clear_8 ⟨fun _ => ⟨_, g1, rfl, rfl⟩, fun h => absurd (by decide) h⟩, ?_, ?_, ?_, ?_, ?_, g2, ?_⟩
      · rw [g3 21 (by decide)]; exact h7
      · rw [g3 21 (by decide)]; exact h8
      · rw [g3 24 (by decide)]; exact h1
      · rw [g3 31 (by decide)]; exact h2
      · rw [g3 32 (by decide)]; exact h3
      · intro k a b c d e
        rw [g3 k c]; exact h4 k a b c d e
    | succ k ih =>
      intro i im1 hi h7 h8 h1 h2 h3 h4
      obtain ⟨im', g⟩ := ih (i + 1) (up2 (up2 (up2 im1 24 i ((1 : Int32) <<< (Int32.ofNat i &&& 31))) 31 i (0 : Int32)) 32 i (0 : Int32)) (by omega) h7 h8
        (fun j hj => by
          rw [up_k (by decide), up_k (by decide)]
          by_cases e : j = i
          · subst e; rw [up_eq]; exact zi_sh ⟨j, by omega⟩
          · rw [up_j e]; exact h1 j (by omega))
        (fun j hj => by
          rw [up_k (by decide)]
          by_cases e : j = i
          · subst e; exact up_eq
          · rw [up_j e, up_k (by decide)]; exact h2 j (by omega))
        (fun j hj => by
          by_cases e : j = i
          · subst e; exact up_eq
          · rw [up_j e, up_k (by decide), up_k (by decide)]; exact h3 j (by omega))
        (fun k a b c d e => by rw [up_r e, up_r d, up_r b]; exact h4 k a b c d e)
      refine ⟨im', t_X9_clear_8 ?_, g.2⟩
      rw [zi_s, zi_n (by omega)]
      exact ⟨fun h => absurd ((zi_le (a := 6) (by omega) (by omega)).mp h) (by omega), fun _ => ⟨zi_in (by omega) (by omega), zi_in (by omega) (by omega), zi_in (by omega) (by omega), g.1⟩⟩
  obtain ⟨im', h1, h2⟩ := lp 6 0 (up2 (up2 im 21 7 (Int32.ofNat n)) 21 8 (Int32.ofNat m)) rfl rfl rfl (fun j hj => absurd hj (by omega)) (fun j hj => absurd hj (by omega)) (fun j hj => absurd hj (by omega)) (fun k a _ _ _ _ => by rw [up_r a, up_r a])
  exact ⟨im', zEv_o rfl (t_X9_clear h1), h2⟩
