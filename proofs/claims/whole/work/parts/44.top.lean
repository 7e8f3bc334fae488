/-! TOP: what the methods of the class's Top answer, and leave -/
theorem zIs_un {n : Nat} {st : Nat → Bool} {rt : Nat → Nat} {x : Int32} (h : zUn n st rt x = -1) (hn : n ≤ 6) (hr : ∀ i, i < n → rt i ≤ i) : ∀ r, zIs n st rt r x = false := by
  intro r
  unfold zUn at h
  unfold zIs
  cases hh : zTh n st x with
  | false => rfl
  | true =>
    obtain ⟨k, hk, e, _⟩ := zTh_ex hn hh
    subst e
    have := hr k hk
    rw [hh, cond_true, zi_n (by omega)] at h
    exact absurd h (zi_m1 (by omega))
theorem zUn_ex {n : Nat} {st : Nat → Bool} {rt : Nat → Nat} {x : Int32} (h : ¬ zUn n st rt x = -1) (hn : n ≤ 6) (hr : ∀ i, i < n → rt i ≤ i) : ∃ r, r < n ∧ zUn n st rt x = Int32.ofNat r ∧ ∀ r', zIs n st rt r' x = decide (r = r') := by
  unfold zUn at h ⊢
  cases hh : zTh n st x with
  | false => rw [hh, cond_false] at h; exact absurd rfl h
  | true =>
    obtain ⟨k, hk, e, _⟩ := zTh_ex hn hh
    subst e
    have := hr k hk
    rw [cond_true, zi_n (by omega)]
    refine ⟨rt k, by omega, rfl, fun r' => ?_⟩
    unfold zIs
    rw [hh, Bool.true_and, zi_n (by omega)]
theorem c_rootOf {d n m i : Nat} {tl : List (Nat × Nat)} {q : zR} {im : zI} {w : Nat → Int32} {st : Nat → Bool} {on rt : Nat → Nat} {s : Nat → Int32} (h : zTo im n m w st on rt s) (hi : i < n) : zEv (d + 2) 46 [.ref 21, .int (Int32.ofNat i)] (zMm tl q im) (some (.int (Int32.ofNat (rt i)))) (zMm tl q im) := by
  obtain ⟨⟨h6, hr⟩, hm, h7, h8, hw, hst, hon, hs⟩ := h
  obtain ⟨r1, r2, r3, r4, r5, r6⟩ := hr i hi
  refine zEv_o rfl (t_X9_rootOf ⟨zi_in (by omega) (by omega), _, _, c_ntz, ?_⟩)
  rw [zi_n (by omega), hon i hi, zNtz_low ⟨on i, r2⟩ r3, r4]
  refine ⟨?_, rfl⟩
  congr 2
  by_cases e : rt i < i
  · rw [if_pos ((zi_lt (by omega) (by omega)).mpr e)]
  · rw [if_neg (fun h => e ((zi_lt (by omega) (by omega)).mp h))]
    congr 1
    omega
theorem c_rootUnder {d n m p : Nat} {tl : List (Nat × Nat)} {q : zR} {im : zI} {w : Nat → Int32} {st : Nat → Bool} {on rt : Nat → Nat} {s : Nat → Int32} (h : zTo im n m w st on rt s) (hp : p < m) : zEv (d + 3) 47 [.ref 21, .int (Int32.ofNat p)] (zMm tl q im) (some (.int (zUn n st rt (s p)))) (zMm tl q im) := by
  have h0 := h
  obtain ⟨⟨h6, hr⟩, hm, h7, h8, hw, hst, hon, hs⟩ := h
  refine zEv_o rfl (t_X9_rootUnder ⟨zi_in (by omega) (by omega), ?_⟩)
  rw [zi_n (by omega), hs p hp, h7]
  have hU : zUn n st rt (s p) = bif zTh n st (s p) then Int32.ofNat (rt (s p).toNatClampNeg) else -1 := rfl
  refine ⟨fun hn => ⟨?_, rfl⟩, fun hn => ⟨fun hl => ⟨?_, rfl⟩, fun hl => ?_⟩⟩
  · have : zTh n st (s p) = false := by unfold zTh; rw [decide_eq_false (Int32.not_le.mpr hn)]; rfl
    rw [hU, this]; rfl
  · have : zTh n st (s p) = false := by unfold zTh; rw [decide_eq_false (Int32.not_lt.mpr hl), Bool.false_and, Bool.and_false]
    rw [hU, this]; rfl
  · obtain ⟨k, hk, e⟩ := zi_ex2 hn (Int32.not_le.mp hl) (by omega)
    rw [hU, e, zi_n (by omega), zTh_of h6 hk, hst k hk]
    refine ⟨zi_in (by omega) (by omega), fun hz => ⟨?_, rfl⟩, fun hz => ?_⟩
    · rw [zb_0] at hz; rw [hz]; rfl
    · have hz' : st k = true := by
        cases hh : st k with
        | true => rfl
        | false => rw [hh] at hz; exact absurd rfl hz
      refine ⟨_, _, c_rootOf h0 hk, ?_, rfl⟩
      rw [hz']; rfl
/-- a row of ints written at one place -/
theorem up_eq {im : zI} {k j : Nat} {v : Int32} : up2 im k j v k j = v := by simp [up2]
theorem up_k {im : zI} {k j k' j' : Nat} {v : Int32} (h : k' ≠ k) : up2 im k j v k' j' = im k' j' := by simp [up2, h]
theorem up_j {im : zI} {k j k' j' : Nat} {v : Int32} (h : j' ≠ j) : up2 im k j v k' j' = im k' j' := by simp [up2, h]
theorem up_r {im : zI} {k j k' : Nat} {v : Int32} (h : k' ≠ k) : up2 im k j v k' = im k' := by funext j'; exact up_k h
theorem zTo_mv {n m : Nat} {im im' : zI} {w : Nat → Int32} {st : Nat → Bool} {on rt : Nat → Nat} {s s' : Nat → Int32} (h : zTo im n m w st on rt s) (hk : ∀ k, k ≠ 25 → k ≠ 32 → im' k = im k) (hs' : ∀ q, q < m → im' 25 q = s' q) : zTo im' n m w st on rt s' := by
  obtain ⟨hR, hm, h7, h8, hw, hst, hon, hs⟩ := h
  unfold zTo
  rw [hk 21 (by decide) (by decide), hk 22 (by decide) (by decide), hk 23 (by decide) (by decide), hk 24 (by decide) (by decide)]
  exact ⟨hR, hm, h7, h8, hw, hst, hon, hs'⟩
theorem zi_p {a : Nat} (h : 1 ≤ a) : Int32.ofNat a - 1 = Int32.ofNat (a - 1) := (Int32.ofNat_sub a 1 h).symm
theorem c_put {d n m p : Nat} {tl : List (Nat × Nat)} {q : zR} {im : zI} {w : Nat → Int32} {st : Nat → Bool} {on rt : Nat → Nat} {s : Nat → Int32} {x : Int32} (h : zTop im n m w st on rt s) (hp : p < m) :
    ∃ im', zEv (d + 4) 48 [.ref 21, .int (Int32.ofNat p), .int x] (zMm tl q im) none (zMm tl q im') ∧ zTop im' n m w st on rt (zSet s p x) ∧ (∀ k, k ≠ 25 → k ≠ 32 → im' k = im k) := by
  obtain ⟨hT, hwh, hcr⟩ := h
  have h6 := hT.1.1
  have hr : ∀ i, i < n → rt i ≤ i := fun i hi => (hT.1.2 i hi).1
  have hm : m ≤ 4 := hT.2.1
  have hs : ∀ q, q < m → im 25 q = s q := hT.2.2.2.2.2.2.2
  have hL : ∀ i, zCr n m st rt (zSet s p (-1)) i + (bif zIs n st rt i (s p) then 1 else 0) = zCr n m st rt s i := fun i => by
    have := zCnt_set (g := zIs n st rt i) (s := s) (x := -1) hp
    have h0 : zIs n st rt i (-1) = false := by unfold zIs; rw [zTh_m1]; rfl
    rw [h0, cond_false, Nat.add_zero] at this
    exact this
  have hF : ∀ i, zCr n m st rt (zSet s p x) i = zCr n m st rt (zSet s p (-1)) i + (bif zIs n st rt i x then 1 else 0) := fun i => by
    have h1 := zCnt_set (g := zIs n st rt i) (s := s) (x := x) hp
    have h2 := hL i
    have h1' : zCr n m st rt (zSet s p x) i + (bif zIs n st rt i (s p) then 1 else 0) = zCr n m st rt s i + (bif zIs n st rt i x then 1 else 0) := h1
    omega
  have hsp : ∀ (f : zI), (∀ q, q < m → f 25 q = s q) → ∀ q, q < m → (up2 f 25 p x) 25 q = zSet s p x q := fun f hf q hq => by
    by_cases e : q = p
    · subst e; rw [up_eq, zSet_eq]
    · rw [up_j e, zSet_ne e, hf q hq]
  -- behind the second look
  have fin : ∀ (A : zI), (∀ k, k ≠ 25 → k ≠ 32 → A k = im k) → (∀ q, q < m → A 25 q = zSet s p x q) → (∀ i, i < n → A 32 i = Int32.ofNat (zCr n m st rt (zSet s p (-1)) i)) →
      ∃ im', (∃ (v5 : Int32) (im4 : zI), zEv (d + 3) 47 [.ref 21, .int (Int32.ofNat p)] (zMm tl q A) (some (.int v5)) (zMm tl q im4) ∧ ((v5 = (-1 : Int32) → ((none : Option Value) = none ∧ zMm tl q im4 = zMm tl q im')) ∧ (¬ v5 = (-1 : Int32) → (vp_in v5 6 ∧ (vp_in v5 6 ∧ ((none : Option Value) = none ∧ zMm tl q (up2 im4 32 (v5).toNatClampNeg ((im4 32 (v5).toNatClampNeg) + (1 : Int32))) = zMm tl q im')))))) ∧ zTop im' n m w st on rt (zSet s p x) ∧ (∀ k, k ≠ 25 → k ≠ 32 → im' k = im k) := by
    intro A hA hA5 hA2
    have hTA := zTo_mv hT hA hA5
    by_cases e : zUn n st rt x = -1
    · refine ⟨A, ⟨_, _, c_rootUnder hTA hp, fun _ => ⟨rfl, rfl⟩, fun h => absurd (by rw [zSet_eq]; exact e) h⟩, ⟨hTA, fun i hi => ?_, fun i hi => ?_⟩, hA⟩
      · rw [hA 31 (by decide) (by decide)]; exact hwh i hi
      · rw [hA2 i hi, hF i, zIs_un e h6 hr]; rfl
    · obtain ⟨r, hrn, er, hri⟩ := zUn_ex e h6 hr
      refine ⟨up2 A 32 r (A 32 r + 1), ⟨_, _, c_rootUnder hTA hp, fun h => absurd h (by rw [zSet_eq]; exact e), fun _ => ?_⟩, ⟨zTo_mv hT (fun k h1 h2 => by rw [up_r h2]; exact hA k h1 h2) (fun q hq => by rw [up_k (by decide)]; exact hA5 q hq), fun i hi => ?_, fun i hi => ?_⟩, fun k h1 h2 => by rw [up_r h2]; exact hA k h1 h2⟩
      · rw [zSet_eq, er, zi_n (by omega)]
        exact ⟨zi_in (by omega) (by omega), zi_in (by omega) (by omega), rfl, rfl⟩
      · rw [up_k (by decide), hA 31 (by decide) (by decide)]; exact hwh i hi
      · by_cases ei : i = r
        · subst ei
          rw [up_eq, hA2 i hi, hF i, hri, decide_eq_true rfl, cond_true, zi_s]
        · rw [up_j ei, hA2 i hi, hF i, hri, decide_eq_false (fun h => ei h.symm)]; rfl
  by_cases e : zUn n st rt (s p) = -1
  · obtain ⟨im', h1, h2, h3⟩ := fin (up2 im 25 p x) (fun k h1 h2 => up_r h1) (hsp im hs) (fun i hi => by
      rw [up_k (by decide), hcr i hi, ← hL i, zIs_un e h6 hr]; rfl)
    refine ⟨im', zEv_o rfl (t_X9_put ⟨_, _, c_rootUnder hT hp, fun _ => ⟨zi_in (by omega) (by omega), ?_⟩, fun h => absurd e h⟩), h2, h3⟩
    rw [zi_n (by omega)]
    exact h1
  · obtain ⟨r, hrn, er, hri⟩ := zUn_ex e h6 hr
    obtain ⟨im', h1, h2, h3⟩ := fin (up2 (up2 im 32 r (im 32 r - 1)) 25 p x) (fun k h1 h2 => by rw [up_r h1, up_r h2]) (hsp _ (fun q hq => by rw [up_k (by decide)]; exact hs q hq)) (fun i hi => by
      rw [up_k (by decide)]
      have hLi := hL i
      rw [hri] at hLi
      by_cases ei : i = r
      · subst ei
        rw [decide_eq_true rfl, cond_true] at hLi
        rw [up_eq, hcr i hi, ← hLi, zi_p (by omega), Nat.add_sub_cancel]
      · rw [decide_eq_false (fun h => ei h.symm), cond_false, Nat.add_zero] at hLi
        rw [up_j ei, hcr i hi, hLi])
    refine ⟨im', zEv_o rfl (t_X9_put ⟨_, _, c_rootUnder hT hp, fun h => absurd h e, fun _ => ?_⟩), h2, h3⟩
    rw [er, zi_n (by omega), zi_n (by omega)]
    exact ⟨zi_in (by omega) (by omega), zi_in (by omega) (by omega), zi_in (by omega) (by omega), h1⟩
