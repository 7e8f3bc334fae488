/-! TOP, on: owners, gains, what is left -/
theorem zFst_m1 {f : Nat → Bool} : ∀ {k p : Nat}, (∀ q, p ≤ q → q < p + k → f q = false) → zFst f p k = -1
  | 0, _, _ => rfl
  | k + 1, p, h => by
    show (bif f p then _ else _) = _
    rw [h p (by omega) (by omega)]
    exact zFst_m1 (fun q h1 h2 => h q (by omega) (by omega))
theorem c_ownerOf {d n m i : Nat} {tl : List (Nat × Nat)} {q : zR} {im : zI} {w : Nat → Int32} {st : Nat → Bool} {on rt : Nat → Nat} {s : Nat → Int32} (h : zTop im n m w st on rt s) (hi : i < n) : zEv (d + 4) 49 [.ref 21, .int (Int32.ofNat i)] (zMm tl q im) (some (.int (zOwn n m st rt s i))) (zMm tl q im) := by
  obtain ⟨hT, hwh, hcr⟩ := h
  have h6 := hT.1.1
  have hr : ∀ i, i < n → rt i ≤ i := fun i hi => (hT.1.2 i hi).1
  have hm : m ≤ 4 := hT.2.1
  have h8 : im 21 8 = Int32.ofNat m := hT.2.2.2.1
  have hri := hr i hi
  have hc : zCr n m st rt s (rt i) ≤ 4 := Nat.le_trans zCnt_le hm
  have lp : ∀ k p, p + k = m → zX (d + 3) zc_X9_ownerOf 14 [(0, .ref 21), (1, .int (Int32.ofNat i)), (2, .int (Int32.ofNat (rt i))), (3, .int (Int32.ofNat p))] [] (zMm tl q im) (fun a b => a = some (.int (zFst (fun q => zIs n st rt (rt i) (s q)) p k)) ∧ b = zMm tl q im) := by
    intro k
    induction k with
    | zero =>
      intro p hp
      refine t_X9_ownerOf_14 ?_
      rw [h8]
      exact ⟨fun _ => ⟨rfl, rfl⟩, fun h => absurd ((zi_le (by omega) (by omega)).mpr (by omega)) h⟩
    | succ k ih =>
      intro p hp
      refine t_X9_ownerOf_14 ?_
      rw [h8]
      refine ⟨fun h => absurd ((zi_le (by omega) (by omega)).mp h) (by omega), fun _ => ⟨_, _, c_rootUnder hT (by omega), fun h => ?_, fun h => ?_⟩⟩
      · have h0 : zIs n st rt (rt i) (s p) = false := by
          cases hh : zIs n st rt (rt i) (s p) with
          | false => rfl
          | true => exact absurd ((zUn_is h6 hr (by omega)).mpr hh) h
        show zX _ _ _ _ _ _ (fun a b => a = some (.int (bif zIs n st rt (rt i) (s p) then _ else _)) ∧ _)
        rw [h0, zi_s]
        exact ih (p + 1) (by omega)
      · have h0 := (zUn_is h6 hr (by omega)).mp h
        show some (Value.int (Int32.ofNat p)) = some (.int (bif zIs n st rt (rt i) (s p) then _ else _)) ∧ _
        rw [h0]
        exact ⟨rfl, rfl⟩
  refine zEv_o rfl (t_X9_ownerOf ⟨_, _, c_rootOf hT hi, zi_in (by omega) (by omega), ?_⟩)
  rw [zi_n (by omega), hcr (rt i) (by omega)]
  show (Int32.ofNat _ = Int32.ofNat 1 → _) ∧ (¬ Int32.ofNat _ = Int32.ofNat 1 → _)
  rw [zi_eq (by omega) (by omega)]
  refine ⟨fun h => ?_, fun h => ⟨?_, rfl⟩⟩
  · have := lp m 0 (by omega)
    unfold zOwn
    rw [if_pos h]
    exact this
  · unfold zOwn
    rw [if_neg h]
theorem c_gainAt {d n m p : Nat} {tl : List (Nat × Nat)} {q : zR} {im : zI} {w : Nat → Int32} {st : Nat → Bool} {on rt : Nat → Nat} {s : Nat → Int32} {x : Int32} (h : zTop im n m w st on rt s) (hp : p < m) : zEv (d + 4) 51 [.ref 21, .int (Int32.ofNat p), .int x] (zMm tl q im) (some (.int (zGa n m w st rt s p x))) (zMm tl q im) := by
  obtain ⟨hT, hwh, hcr⟩ := h
  have h6 := hT.1.1
  have hr : ∀ i, i < n → rt i ≤ i := fun i hi => (hT.1.2 i hi).1
  have hm : m ≤ 4 := hT.2.1
  have h7 : im 21 7 = Int32.ofNat n := hT.2.2.1
  have hst : ∀ i, i < n → im 23 i = zb (st i) := hT.2.2.2.2.2.1
  refine zEv_o rfl (t_X9_gainAt ?_)
  rw [h7]
  have hG : zGa n m w st rt s p x = bif zTh n st x then (if zCr n m st rt s (rt x.toNatClampNeg) = (bif zIs n st rt (rt x.toNatClampNeg) (s p) then 1 else 0) then zWh n w st rt (rt x.toNatClampNeg) else 0) else 0 := rfl
  refine ⟨fun hn => ⟨?_, rfl⟩, fun hn => ⟨fun hl => ⟨?_, rfl⟩, fun hl => ?_⟩⟩
  · have : zTh n st x = false := by unfold zTh; rw [decide_eq_false (Int32.not_le.mpr hn)]; rfl
    rw [hG, this]; rfl
  · have : zTh n st x = false := by unfold zTh; rw [decide_eq_false (Int32.not_lt.mpr hl), Bool.false_and, Bool.and_false]
    rw [hG, this]; rfl
  · obtain ⟨k, hk, e⟩ := zi_ex2 hn (Int32.not_le.mp hl) (by omega)
    subst e
    have hrk := hr k hk
    have hc : zCr n m st rt s (rt k) ≤ 4 := Nat.le_trans zCnt_le hm
    rw [hG, zi_n (by omega), zTh_of h6 hk, hst k hk]
    refine ⟨zi_in (by omega) (by omega), fun hz => ?_, fun hz => ⟨?_, rfl⟩⟩
    · have hz' : st k = true := by
        cases hh : st k with
        | true => rfl
        | false => rw [hh] at hz; exact absurd rfl hz
      rw [hz', cond_true]
      refine ⟨_, _, c_rootOf hT hk, zi_in (by omega) (by omega), _, _, c_rootUnder hT hp, ?_⟩
      rw [zi_n (by omega), hcr (rt k) (by omega), hwh (rt k) (by omega)]
      rw [zUn_is h6 hr (by omega)]
      refine ⟨fun hu => ?_, fun hu => ?_⟩
      · have hu' : zIs n st rt (rt k) (s p) = false := by
          cases hh : zIs n st rt (rt k) (s p) with
          | false => rfl
          | true => exact absurd hh hu
        rw [hu', cond_false, Int32.sub_zero]
        show (¬ Int32.ofNat _ = Int32.ofNat 0 → _) ∧ (Int32.ofNat _ = Int32.ofNat 0 → _)
        rw [zi_eq (by omega) (by omega)]
        refine ⟨fun h0 => ⟨?_, rfl⟩, fun h0 => ⟨zi_in (by omega) (by omega), ?_, rfl⟩⟩
        · rw [if_neg h0]
        · rw [if_pos h0]
      · rw [hu, cond_true]
        have h1 : 1 ≤ zCr n m st rt s (rt k) := by
          have := zCnt_set (g := zIs n st rt (rt k)) (s := s) (x := -1) hp
          rw [hu] at this
          have h0 : zIs n st rt (rt k) (-1) = false := by unfold zIs; rw [zTh_m1]; rfl
          rw [h0] at this
          show 1 ≤ zCnt m (fun q => zIs n st rt (rt k) (s q))
          simp only [cond_true, cond_false] at this
          omega
        rw [zi_p h1]
        show (¬ Int32.ofNat _ = Int32.ofNat 0 → _) ∧ (Int32.ofNat _ = Int32.ofNat 0 → _)
        rw [zi_eq (by omega) (by omega)]
        refine ⟨fun h0 => ⟨?_, rfl⟩, fun h0 => ⟨zi_in (by omega) (by omega), ?_, rfl⟩⟩
        · rw [if_neg (by omega)]
        · rw [if_pos (by omega)]
    · rw [zb_0] at hz; rw [hz]; rfl
theorem c_gainOf {d n m p : Nat} {tl : List (Nat × Nat)} {q : zR} {im : zI} {w : Nat → Int32} {st : Nat → Bool} {on rt : Nat → Nat} {s : Nat → Int32} (h : zTop im n m w st on rt s) (hp : p < m) : zEv (d + 5) 50 [.ref 21, .int (Int32.ofNat p)] (zMm tl q im) (some (.int (zGa n m w st rt s p (s p)))) (zMm tl q im) := by
  have hm : m ≤ 4 := h.1.2.1
  have hs : ∀ q, q < m → im 25 q = s q := h.1.2.2.2.2.2.2.2
  refine zEv_o rfl (t_X9_gainOf ⟨zi_in (by omega) (by omega), _, _, c_gainAt h hp, ?_, rfl⟩)
  rw [zi_n (by omega), hs p hp]
/-- the sum of the gains of all but one -/
def zGo (n m : Nat) (w : Nat → Int32) (st : Nat → Bool) (rt : Nat → Nat) (s : Nat → Int32) (p : Nat) : Int32 := zSum m (fun q => if q = p then 0 else zGa n m w st rt s q (s q))
theorem c_gainOfOthers {d n m p : Nat} {tl : List (Nat × Nat)} {q : zR} {im : zI} {w : Nat → Int32} {st : Nat → Bool} {on rt : Nat → Nat} {s : Nat → Int32} (h : zTop im n m w st on rt s) (hp : p < m) : zEv (d + 6) 52 [.ref 21, .int (Int32.ofNat p)] (zMm tl q im) (some (.int (zGo n m w st rt s p))) (zMm tl q im) := by
  have hm : m ≤ 4 := h.1.2.1
  have h8 : im 21 8 = Int32.ofNat m := h.1.2.2.2.1
  have lp : ∀ k i, i + k = m → zX (d + 5) zc_X9_gainOfOthers 4 [(0, .ref 21), (1, .int (Int32.ofNat p)), (2, .int (zSum i (fun q => if q = p then 0 else zGa n m w st rt s q (s q)))), (3, .int (Int32.ofNat i))] [] (zMm tl q im) (fun a b => a = some (.int (zGo n m w st rt s p)) ∧ b = zMm tl q im) := by
    intro k
    induction k with
    | zero =>
      intro i hi
      refine t_X9_gainOfOthers_4 ?_
      rw [h8]
      have e : i = m := by omega
      subst e
      exact ⟨fun _ => ⟨rfl, rfl⟩, fun h => absurd ((zi_le (by omega) (by omega)).mpr (by omega)) h⟩
    | succ k ih =>
      intro i hi
      refine t_X9_gainOfOthers_4 ?_
      rw [h8, zi_eq (by omega) (by omega), zi_s]
      have ih := ih (i + 1) (by omega)
      rw [show zSum (i + 1) (fun q => if q = p then 0 else zGa n m w st rt s q (s q)) = zSum i (fun q => if q = p then 0 else zGa n m w st rt s q (s q)) + (if i = p then 0 else zGa n m w st rt s i (s i)) from rfl] at ih
      refine ⟨fun h => absurd ((zi_le (by omega) (by omega)).mp h) (by omega), fun _ => ⟨fun e => ?_, fun e => ⟨_, _, c_gainOf h (by omega), ?_⟩⟩⟩
      · rw [if_pos e, Int32.add_zero] at ih
        exact ih
      · rw [if_neg e] at ih
        exact ih
  exact zEv_o rfl (t_X9_gainOfOthers (lp m 0 (by omega)))
