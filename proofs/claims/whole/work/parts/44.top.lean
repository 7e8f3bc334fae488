/-! TOP: what the methods of the class's Top answer, and leave -/
theorem zIs_un {n : Nat} {st : Nat → Bool} {rt : Nat → Nat} {x : Int32} (h : zUn n st rt x = -1) (hn : n ≤ 6) (hr : ∀ i, i < n → rt i ≤ i) : ∀ r, zIs n st rt r x = false := by
  intro r
  unfold zUn at h
  unfold zIs
  cases hh : zTh n st x with
  | false => rfl
  | true =>
    obtain ⟨k, hk, e, _⟩ := zTh_ex hn hh
    subst e
    have := hr k hk
    rw [hh, cond_true, zi_n (by omega)] at h
    exact absurd h (zi_m1 (by omega))
theorem zUn_ex {n : Nat} {st : Nat → Bool} {rt : Nat → Nat} {x : Int32} (h : ¬ zUn n st rt x = -1) (hn : n ≤ 6) (hr : ∀ i, i < n → rt i ≤ i) : ∃ r, r < n ∧ zUn n st rt x = Int32.ofNat r ∧ ∀ r', zIs n st rt r' x = decide (r = r') := by
  unfold zUn at h ⊢
  cases hh : zTh n st x with
  | false => rw [hh, cond_false] at h; exact absurd rfl h
  | true =>
    obtain ⟨k, hk, e, _⟩ := zTh_ex hn hh
    subst e
    have := hr k hk
    rw [cond_true, zi_n (by omega)]
    refine ⟨rt k, by omega, rfl, fun r' => ?_⟩
    unfold zIs
    rw [hh, Bool.true_and, zi_n (by omega)]
theorem c_rootOf {d n m i : Nat} {tl : List (Nat × Nat)} {q : zR} {im : zI} {w : Nat → Int32} {st : Nat → Bool} {on rt : Nat → Nat} {s : Nat → Int32} (h : zTop im n m w st on rt s) (hi : i < n) : zEv (d + 2) 46 [.ref 21, .int (Int32.ofNat i)] (zMm tl q im) (some (.int (Int32.ofNat (rt i)))) (zMm tl q im) := by
  obtain ⟨⟨h6, hr⟩, hm, h7, h8, hw, hst, hon, hs, hwh, hcr⟩ := h
  obtain ⟨r1, r2, r3, r4, r5, r6⟩ := hr i hi
  refine zEv_o rfl (t_X9_rootOf ⟨zi_in (by omega) (by omega), _, _, c_ntz, ?_⟩)
  rw [zi_n (by omega), hon i hi, zNtz_low ⟨on i, r2⟩ r3, r4]
  refine ⟨?_, rfl⟩
  congr 2
  by_cases e : rt i < i
  · rw [if_pos ((zi_lt (by omega) (by omega)).mpr e)]
  · rw [if_neg (fun h => e ((zi_lt (by omega) (by omega)).mp h))]
    congr 1
    omega
theorem c_rootUnder {d n m p : Nat} {tl : List (Nat × Nat)} {q : zR} {im : zI} {w : Nat → Int32} {st : Nat → Bool} {on rt : Nat → Nat} {s : Nat → Int32} (h : zTop im n m w st on rt s) (hp : p < m) : zEv (d + 3) 47 [.ref 21, .int (Int32.ofNat p)] (zMm tl q im) (some (.int (zUn n st rt (s p)))) (zMm tl q im) := by
  have h0 := h
  obtain ⟨⟨h6, hr⟩, hm, h7, h8, hw, hst, hon, hs, hwh, hcr⟩ := h
  refine zEv_o rfl (t_X9_rootUnder ⟨zi_in (by omega) (by omega), ?_⟩)
  rw [zi_n (by omega), hs p hp, h7]
  have hU : zUn n st rt (s p) = bif zTh n st (s p) then Int32.ofNat (rt (s p).toNatClampNeg) else -1 := rfl
  refine ⟨fun hn => ⟨?_, rfl⟩, fun hn => ⟨fun hl => ⟨?_, rfl⟩, fun hl => ?_⟩⟩
  · have : zTh n st (s p) = false := by unfold zTh; rw [decide_eq_false (Int32.not_le.mpr hn)]; rfl
    rw [hU, this]; rfl
  · have : zTh n st (s p) = false := by unfold zTh; rw [decide_eq_false (Int32.not_lt.mpr hl), Bool.false_and, Bool.and_false]
    rw [hU, this]; rfl
  · obtain ⟨k, hk, e⟩ := zi_ex2 hn (Int32.not_le.mp hl) (by omega)
    rw [hU, e, zi_n (by omega), zTh_of h6 hk, hst k hk]
    refine ⟨zi_in (by omega) (by omega), fun hz => ⟨?_, rfl⟩, fun hz => ?_⟩
    · rw [zb_0] at hz; rw [hz]; rfl
    · have hz' : st k = true := by
        cases hh : st k with
        | true => rfl
        | false => rw [hh] at hz; exact absurd rfl hz
      refine ⟨_, _, c_rootOf h0 hk, ?_, rfl⟩
      rw [hz']; rfl
/-- a row of ints written at one place -/
theorem up_eq {im : zI} {k j : Nat} {v : Int32} : up2 im k j v k j = v := by simp [up2]
theorem up_k {im : zI} {k j k' j' : Nat} {v : Int32} (h : k' ≠ k) : up2 im k j v k' j' = im k' j' := by simp [up2, h]
theorem up_j {im : zI} {k j k' j' : Nat} {v : Int32} (h : j' ≠ j) : up2 im k j v k' j' = im k' j' := by simp [up2, h]
theorem up_r {im : zI} {k j k' : Nat} {v : Int32} (h : k' ≠ k) : up2 im k j v k' = im k' := by funext j'; exact up_k h
