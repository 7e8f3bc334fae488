/-! TOP, on: unite, sums of wholes -/
theorem zBt_nat : ∀ x : Fin 64, ∀ i : Fin 6, zBt (Int32.ofNat x.1) i.1 = x.1.testBit i.1 := by decide +kernel
theorem zi_or : ∀ x y : Fin 64, Int32.ofNat x.1 ||| Int32.ofNat y.1 = Int32.ofNat (x.1 ||| y.1) := by decide +kernel
theorem or_64 {x y : Nat} (hx : x < 64) (hy : y < 64) : x ||| y < 64 := Nat.or_lt_two_pow (n := 6) hx hy
theorem zLow_of : ∀ x : Fin 64, ∀ r : Fin 6, x.1.testBit r.1 = true → (∀ j : Fin 6, j.1 < r.1 → x.1.testBit j.1 = false) → zLow x.1 = r.1 := by decide +kernel
def yUn (on : Nat → Nat) (a b : Nat) : Nat → Nat := fun i => bif (on a ||| on b).testBit i then on a ||| on b else on i
/-- a parting of six, by roots -/
def yP (on rt : Nat → Nat) : Prop := ∀ i, i < 6 → rt i ≤ i ∧ on i < 64 ∧ rt (rt i) = rt i ∧ (∀ j, (on i).testBit j = true ↔ (j < 6 ∧ rt j = rt i))
def yRu (rt : Nat → Nat) (a b : Nat) : Nat → Nat := fun i => if rt i = rt a ∨ rt i = rt b then min (rt a) (rt b) else rt i
theorem yP_un {on rt : Nat → Nat} {a b : Nat} (h : yP on rt) (ha : a < 6) (hb : b < 6) : yP (yUn on a b) (yRu rt a b) := by
  intro i hi
  obtain ⟨i1, i2, i3, i4⟩ := h i hi
  obtain ⟨a1, a2, a3, a4⟩ := h a ha
  obtain ⟨b1, b2, b3, b4⟩ := h b hb
  have hm : min (rt a) (rt b) = rt a ∨ min (rt a) (rt b) = rt b := by omega
  have hrm : rt (min (rt a) (rt b)) = min (rt a) (rt b) := by
    rcases hm with e | e <;> rw [e] <;> assumption
  have ht : ∀ j, (on a ||| on b).testBit j = true ↔ (j < 6 ∧ (rt j = rt a ∨ rt j = rt b)) := fun j => by
    rw [Nat.testBit_or, Bool.or_eq_true, a4 j, b4 j]
    constructor
    · rintro (h | h)
      · exact ⟨h.1, .inl h.2⟩
      · exact ⟨h.1, .inr h.2⟩
    · rintro ⟨h1, h | h⟩
      · exact .inl ⟨h1, h⟩
      · exact .inr ⟨h1, h⟩
  by_cases hc : rt i = rt a ∨ rt i = rt b
  · have e1 : yRu rt a b i = min (rt a) (rt b) := if_pos hc
    have e2 : yUn on a b i = on a ||| on b := by unfold yUn; rw [(ht i).mpr ⟨hi, hc⟩]; rfl
    rw [e1, e2]
    refine ⟨by omega, or_64 a2 b2, ?_, fun j => ?_⟩
    · unfold yRu
      rw [hrm]
      rw [if_pos hm]
    · rw [ht j]
      unfold yRu
      constructor
      · rintro ⟨h1, h2⟩
        rw [if_pos h2]
        exact ⟨h1, rfl⟩
      · rintro ⟨h1, h2⟩
        refine ⟨h1, ?_⟩
        by_cases e : rt j = rt a ∨ rt j = rt b
        · exact e
        · rw [if_neg e] at h2
          rw [h2]
          exact hm
  · have e1 : yRu rt a b i = rt i := if_neg hc
    have e2 : yUn on a b i = on i := by
      unfold yUn
      cases hh : (on a ||| on b).testBit i with
      | false => rfl
      | true => exact absurd ((ht i).mp hh).2 hc
    rw [e1, e2]
    refine ⟨i1, i2, ?_, fun j => ?_⟩
    · unfold yRu
      rw [i3, if_neg hc]
    · rw [i4 j]
      unfold yRu
      constructor
      · rintro ⟨h1, h2⟩
        rw [if_neg (by rw [h2]; exact hc)]
        exact ⟨h1, h2⟩
      · rintro ⟨h1, h2⟩
        refine ⟨h1, ?_⟩
        by_cases e : rt j = rt a ∨ rt j = rt b
        · rw [if_pos e] at h2
          exact absurd (by rw [← h2]; exact hm) hc
        · rw [if_neg e] at h2
          exact h2
theorem yP_rt {n : Nat} {on rt : Nat → Nat} (h : yP on rt) (hn : n ≤ 6) (hs : ∀ i, i < 6 → n ≤ i → rt i = i) : zRt n on rt := by
  refine ⟨hn, fun i hi => ?_⟩
  obtain ⟨i1, i2, i3, i4⟩ := h i (by omega)
  refine ⟨i1, i2, ?_, ?_, i3, fun j => ?_⟩
  · intro h0
    have := (i4 i).mpr ⟨by omega, rfl⟩
    rw [h0, Nat.zero_testBit] at this
    cases this
  · refine zLow_of ⟨on i, i2⟩ ⟨rt i, by omega⟩ ((i4 (rt i)).mpr ⟨by omega, i3⟩) (fun j hj => ?_)
    cases hh : (on i).testBit j.1 with
    | false => rfl
    | true =>
      have e := ((i4 j.1).mp hh).2
      have := (h j.1 j.2).1
      have hj' : j.1 < rt i := hj
      omega
  · rw [Bool.eq_iff_iff, i4 j, Bool.and_eq_true, decide_eq_true_eq, decide_eq_true_eq]
    constructor
    · rintro ⟨h1, h2⟩
      refine ⟨?_, h2⟩
      by_cases e : j < n
      · exact e
      · have := hs j h1 (by omega)
        omega
    · rintro ⟨h1, h2⟩
      exact ⟨by omega, h2⟩
theorem c_unite {d a b : Nat} {tl : List (Nat × Nat)} {q : zR} {im : zI} {on rt : Nat → Nat} (h : ∀ i, i < 6 → im 24 i = Int32.ofNat (on i)) (hP : yP on rt) (ha : a < 6) (hb : b < 6) :
    ∃ im', zEv (d + 1) 44 [.ref 21, .int (Int32.ofNat a), .int (Int32.ofNat b)] (zMm tl q im) none (zMm tl q im') ∧ (∀ i, i < 6 → im' 24 i = Int32.ofNat (yUn on a b i)) ∧ (∀ k, k ≠ 24 → im' k = im k) := by
  have a2 := (hP a ha).2.1
  have b2 := (hP b hb).2.1
  have hab := or_64 a2 b2
  have lp : ∀ k i im1, i + k = 6 → (∀ j, j < 6 → im1 24 j = Int32.ofNat (if j < i then yUn on a b j else on j)) → (∀ k, k ≠ 24 → im1 k = im k) →
      ∃ im', zX d zc_X9_unite 12 [(0, .ref 21), (1, .int (Int32.ofNat a)), (2, .int (Int32.ofNat b)), (3, .int (Int32.ofNat (on a ||| on b))), (4, .int (Int32.ofNat i))] [] (zMm tl q im1) (fun x b => x = none ∧ b = zMm tl q im') ∧ (∀ i, i < 6 → im' 24 i = Int32.ofNat (yUn on a b i)) ∧ (∀ k, k ≠ 24 → im' k = im k) := by
    intro k
    induction k with
    | zero =>
      intro i im1 hi h1 h2
      have e : i = 6 := by omega
      subst e
      refine ⟨im1, t_X9_unite_12 ⟨fun _ => ⟨rfl, rfl⟩, fun h => absurd (by decide) h⟩, fun j hj => ?_, h2⟩
      rw [h1 j hj, if_pos hj]
    | succ k ih =>
      intro i im1 hi h1 h2
      have hbt := zBt_nat ⟨on a ||| on b, hab⟩ ⟨i, by omega⟩
      simp only at hbt
      cases hh : (on a ||| on b).testBit i with
      | false =>
        rw [hh] at hbt
        obtain ⟨im', g1, g2, g3⟩ := ih (i + 1) im1 (by omega) (fun j hj => by
          rw [h1 j hj]
          by_cases e : j = i
          · subst e
            rw [if_neg (by omega), if_pos (by omega)]
            unfold yUn
            rw [hh]; rfl
          · by_cases e2 : j < i
            · rw [if_pos e2, if_pos (by omega)]
            · rw [if_neg e2, if_neg (by omega)]) h2
        refine ⟨im', t_X9_unite_12 ?_, g2, g3⟩
        rw [zi_s, zBt_1, hbt]
        exact ⟨fun h => absurd ((zi_le (a := 6) (by omega) (by omega)).mp h) (by omega), fun _ => ⟨fun _ => g1, fun e => Bool.noConfusion e⟩⟩
      | true =>
        rw [hh] at hbt
        obtain ⟨im', g1, g2, g3⟩ := ih (i + 1) (up2 im1 24 i (Int32.ofNat (on a ||| on b))) (by omega) (fun j hj => by
          by_cases e : j = i
          · subst e
            rw [up_eq, if_pos (by omega)]
            unfold yUn
            rw [hh]; rfl
          · rw [up_j e, h1 j hj]
            by_cases e2 : j < i
            · rw [if_pos e2, if_pos (by omega)]
            · rw [if_neg e2, if_neg (by omega)]) (fun k hk => by rw [up_r hk]; exact h2 k hk)
        refine ⟨im', t_X9_unite_12 ?_, g2, g3⟩
        rw [zi_s, zBt_1, hbt, zi_n (by omega)]
        exact ⟨fun h => absurd ((zi_le (a := 6) (by omega) (by omega)).mp h) (by omega), fun _ => ⟨fun e => absurd rfl e, fun _ => ⟨zi_in (by omega) (by omega), g1⟩⟩⟩
  obtain ⟨im', h1, h2⟩ := lp 6 0 im (by omega) (fun j hj => by rw [if_neg (by omega)]; exact h j hj) (fun _ _ => rfl)
  refine ⟨im', zEv_o rfl (t_X9_unite ⟨zi_in (by omega) (by omega), zi_in (by omega) (by omega), ?_⟩), h2⟩
  rw [zi_n (by omega), zi_n (by omega), h a ha, h b hb, zi_or ⟨on a, a2⟩ ⟨on b, b2⟩]
  exact h1
