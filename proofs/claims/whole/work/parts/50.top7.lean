/-! TOP, on: the sums of wholes -/
theorem zTo_k {n m : Nat} {im im' : zI} {w : Nat → Int32} {st : Nat → Bool} {on rt : Nat → Nat} {s : Nat → Int32} (h : zTo im n m w st on rt s) (hk : ∀ k, 20 < k → k < 26 → im' k = im k) : zTo im' n m w st on rt s := by
  unfold zTo at h ⊢
  rw [hk 21 (by decide) (by decide), hk 22 (by decide) (by decide), hk 23 (by decide) (by decide), hk 24 (by decide) (by decide), hk 25 (by decide) (by decide)]
  exact h
theorem c_sumWholes {d n m : Nat} {tl : List (Nat × Nat)} {q : zR} {im : zI} {w : Nat → Int32} {st : Nat → Bool} {on rt : Nat → Nat} {s : Nat → Int32} (h : zTo im n m w st on rt s) (h0 : ∀ i, i < n → im 31 i = 0) :
    ∃ im', zEv (d + 3) 45 [.ref 21] (zMm tl q im) none (zMm tl q im') ∧ (∀ i, i < n → im' 31 i = zWh n w st rt i) ∧ (∀ k, k ≠ 31 → im' k = im k) := by
  have h6 := h.1.1
  have hr : ∀ i, i < n → rt i ≤ i := fun i hi => (h.1.2 i hi).1
  have lp : ∀ k i im1, i + k = n → (∀ r, r < n → im1 31 r = zSum i (fun j => bif st j && decide (rt j = r) then w j else 0)) → (∀ k, k ≠ 31 → im1 k = im k) →
      ∃ im', zX (d + 2) zc_X9_sumWholes 2 [(0, .ref 21), (1, .int (Int32.ofNat i))] [] (zMm tl q im1) (fun x b => x = none ∧ b = zMm tl q im') ∧ (∀ i, i < n → im' 31 i = zWh n w st rt i) ∧ (∀ k, k ≠ 31 → im' k = im k) := by
    intro k
    induction k with
    | zero =>
      intro i im1 hi h1 h2
      have hT := zTo_k h (im' := im1) (fun k a b => h2 k (by omega))
      have h7 : im1 21 7 = Int32.ofNat n := hT.2.2.1
      have e : i = n := by omega
      subst e
      refine ⟨im1, t_X9_sumWholes_2 ?_, h1, h2⟩
      rw [h7]
      exact ⟨fun _ => ⟨rfl, rfl⟩, fun h => absurd ((zi_le (by omega) (by omega)).mpr (by omega)) h⟩
    | succ k ih =>
      intro i im1 hi h1 h2
      have hT := zTo_k h (im' := im1) (fun k a b => h2 k (by omega))
      have h7 : im1 21 7 = Int32.ofNat n := hT.2.2.1
      have hw : im1 22 i = w i := hT.2.2.2.2.1 i (by omega)
      have hst : im1 23 i = zb (st i) := hT.2.2.2.2.2.1 i (by omega)
      have hS : ∀ r, zSum (i + 1) (fun j => bif st j && decide (rt j = r) then w j else 0) = zSum i (fun j => bif st j && decide (rt j = r) then w j else 0) + (bif st i && decide (rt i = r) then w i else 0) := fun _ => rfl
      have hri := hr i (by omega)
      cases hs : st i with
      | false =>
        obtain ⟨im', g1, g2⟩ := ih (i + 1) im1 (by omega) (fun r hr => by rw [hS r, hs, h1 r hr]; exact (Int32.add_zero _).symm) h2
        refine ⟨im', t_X9_sumWholes_2 ?_, g2⟩
        rw [h7, zi_s, zi_n (by omega), hst, hs, zb_0]
        exact ⟨fun h => absurd ((zi_le (by omega) (by omega)).mp h) (by omega), fun _ => ⟨zi_in (by omega) (by omega), fun _ => g1, fun e => absurd rfl e⟩⟩
      | true =>
        obtain ⟨im', g1, g2⟩ := ih (i + 1) (up2 im1 31 (rt i) (im1 31 (rt i) + w i)) (by omega) (fun r hr => by
          rw [hS r, hs, Bool.true_and]
          by_cases e : r = rt i
          · subst e
            rw [up_eq, h1 (rt i) (by omega), decide_eq_true rfl]; rfl
          · rw [up_j e, h1 r hr, decide_eq_false (fun h => e h.symm)]
            exact (Int32.add_zero _).symm) (fun k hk => by rw [up_r hk]; exact h2 k hk)
        refine ⟨im', t_X9_sumWholes_2 ?_, g2⟩
        rw [h7, zi_s, zi_n (by omega), hst, hs, zb_0]
        refine ⟨fun h => absurd ((zi_le (by omega) (by omega)).mp h) (by omega), fun _ => ⟨zi_in (by omega) (by omega), fun e => Bool.noConfusion e, fun _ => ⟨_, _, c_rootOf hT (by omega), zi_in (by omega) (by omega), zi_in (by omega) (by omega), zi_in (by omega) (by omega), ?_⟩⟩⟩
        rw [zi_n (by omega), hw]
        exact g1
  obtain ⟨im', h1, h2⟩ := lp n 0 im (by omega) (fun r hr => h0 r hr) (fun _ _ => rfl)
  exact ⟨im', zEv_o rfl (t_X9_sumWholes h1), h2⟩
