/-! CALLS: islandsBy -/
theorem zi_up {j : Nat} (h : j < 20) : Int32.ofNat (2147483648 + j) < 0 := by
  have : ∀ j : Fin 20, Int32.ofNat (2147483648 + j.val) < 0 := by decide
  exact this ⟨j, h⟩
theorem zi_dn {z : Nat} (h : z < 4) : Int32.ofNat z - 4 < 0 := by
  match z, h with
  | 0, _ => decide
  | 1, _ => decide
  | 2, _ => decide
  | 3, _ => decide
theorem yRoom_m {z i : Nat} {x : Int32} (hz : z ≤ 40) (hi : i < 6) (hx : ¬ x < 0) : yRoom z (x + 4 * Int32.ofNat i) 4 = (!decide (x + 4 * Int32.ofNat i < x) && decide (x + 4 * Int32.ofNat i ≤ Int32.ofNat z - 4)) := by
  have hf := zi_ex hx
  have hlt := Int32.toNatClampNeg_lt x
  generalize x.toNatClampNeg = f at hf hlt
  subst hf
  have e4 : (4 : Int32) * Int32.ofNat i = Int32.ofNat (4 * i) := (Int32.ofNat_mul 4 i).symm
  rw [e4, ← Int32.ofNat_add]
  unfold yRoom
  rw [decide_eq_false (show ¬ (4 : Int32) < 0 by decide)]
  by_cases h : f + 4 * i < 2147483648
  · rw [decide_eq_false (zi_neg h), decide_eq_false (show ¬ Int32.ofNat (f + 4 * i) < Int32.ofNat f from fun hh => absurd ((zi_lt h (by omega)).mp hh) (by omega))]
    show (!decide (Int32.ofNat z < Int32.ofNat (f + 4 * i)) && !decide (Int32.ofNat z - Int32.ofNat (f + 4 * i) < 4)) = decide (Int32.ofNat (f + 4 * i) ≤ Int32.ofNat z - 4)
    by_cases h2 : f + 4 * i + 4 ≤ z
    · rw [decide_eq_false (show ¬ Int32.ofNat z < Int32.ofNat (f + 4 * i) from fun hh => absurd ((zi_lt (by omega) h).mp hh) (by omega)), ← Int32.ofNat_sub z (f + 4 * i) (by omega), show Int32.ofNat z - 4 = Int32.ofNat (z - 4) from (Int32.ofNat_sub z 4 (by omega)).symm, decide_eq_true ((zi_le h (by omega)).mpr (show f + 4 * i ≤ z - 4 by omega)), decide_eq_false (show ¬ Int32.ofNat (z - (f + 4 * i)) < 4 from fun hh => absurd ((zi_lt (b := 4) (by omega) (by omega)).mp hh) (by omega))]
      rfl
    · have r : decide (Int32.ofNat (f + 4 * i) ≤ Int32.ofNat z - 4) = false := by
        by_cases h4 : z < 4
        · exact decide_eq_false (fun hh => absurd (Int32.lt_of_le_of_lt hh (zi_dn h4)) (zi_neg h))
        · rw [show Int32.ofNat z - 4 = Int32.ofNat (z - 4) from (Int32.ofNat_sub z 4 (by omega)).symm]
          exact decide_eq_false (fun hh => absurd ((zi_le h (by omega)).mp hh) (by omega))
      rw [r]
      by_cases h3 : z < f + 4 * i
      · rw [decide_eq_true ((zi_lt (by omega) h).mpr h3)]
        rfl
      · rw [← Int32.ofNat_sub z (f + 4 * i) (by omega), decide_eq_true (show Int32.ofNat (z - (f + 4 * i)) < 4 from (zi_lt (b := 4) (by omega) (by omega)).mpr (by omega)), Bool.not_true, Bool.and_false]
  · have e : Int32.ofNat (f + 4 * i) < 0 := by
      have := zi_up (j := f + 4 * i - 2147483648) (by omega)
      rwa [show 2147483648 + (f + 4 * i - 2147483648) = f + 4 * i by omega] at this
    rw [decide_eq_true e, decide_eq_true (show Int32.ofNat (f + 4 * i) < Int32.ofNat f from Int32.lt_of_lt_of_le e (Int32.not_lt.mp hx))]
    rfl
/-- the islands that a sheet's cells give -/
def yIbs (g : Nat → Int32) (z : Nat) (x : Int32) : Nat → Nat → Nat → yV → Int32 × yV
  | 0, _, acc, V => (Int32.ofNat acc, V)
  | n + 1, i, acc, V =>
    bif !decide (x < 0) && yRoom z (x + 4 * Int32.ofNat i) 4 then
      yIbs g z x n (i + 1) (if (yIslA V (g (x + 4 * Int32.ofNat i).toNatClampNeg) (g ((x + 4 * Int32.ofNat i).toNatClampNeg + 1)) (g ((x + 4 * Int32.ofNat i).toNatClampNeg + 2)) (g ((x + 4 * Int32.ofNat i).toNatClampNeg + 3))).1 < 0 then acc else acc + 1)
        (yIslA V (g (x + 4 * Int32.ofNat i).toNatClampNeg) (g ((x + 4 * Int32.ofNat i).toNatClampNeg + 1)) (g ((x + 4 * Int32.ofNat i).toNatClampNeg + 2)) (g ((x + 4 * Int32.ofNat i).toNatClampNeg + 3))).2
    else (-12, V)
theorem yIbs_g {g : Nat → Int32} {z : Nat} {x : Int32} : ∀ (n i acc : Nat) (V : yV), yG V → yG (yIbs g z x n i acc V).2 ∧ yvN V ≤ yvN (yIbs g z x n i acc V).2 ∧ yvC (yIbs g z x n i acc V).2 = yvC V := by
  intro n
  induction n with
  | zero => exact fun i acc V hG => ⟨hG, Nat.le_refl _, rfl⟩
  | succ n ih =>
    intro i acc V hG
    unfold yIbs
    cases h : (!decide (x < 0) && yRoom z (x + 4 * Int32.ofNat i) 4) with
    | false => exact ⟨hG, Nat.le_refl _, rfl⟩
    | true =>
      rw [cond_true]
      obtain ⟨a1, a2, a3⟩ := yG_islA (a := g (x + 4 * Int32.ofNat i).toNatClampNeg) (b := g ((x + 4 * Int32.ofNat i).toNatClampNeg + 1)) (c := g ((x + 4 * Int32.ofNat i).toNatClampNeg + 2)) (e := g ((x + 4 * Int32.ofNat i).toNatClampNeg + 3)) hG
      obtain ⟨b1, b2, b3⟩ := ih (i + 1) _ _ a1
      exact ⟨b1, Nat.le_trans a2 b2, b3.trans a3⟩
/-- a place of four cells -/
theorem yRoom_4 {z : Nat} {y : Int32} (hz : z ≤ 40) (h : yRoom z y 4 = true) : ∃ p, y = Int32.ofNat p ∧ p + 4 ≤ z := by
  obtain ⟨_, p, n, h1, h2, h3⟩ := yRoom_ex hz h
  have := (zi_eq (a := 4) (b := n) (by omega) (by omega)).mp h2
  exact ⟨p, h1, by omega⟩
theorem c_islby {d s z m : Nat} {g : Nat → Int32} {x1 x2 x : Int32} (hs : s < 4) (hz : z ≤ 40) (hm : m < 7) :
    ∀ (n i acc : Nat) (V : yV) (tl : List (Nat × Nat)) (q : zR) (im : zI), i + n = m → yG V → yA tl q im V → im (37 + 2 * s) 2 = Int32.ofNat z → (∀ j, j < 40 → im (38 + 2 * s) j = g j) → tl.length + n < 100000 →
      ∃ tl' q' im', zX (d + 6) zc_X11_islandsBy 34 [(0, .ref 0), (1, .int x1), (2, .int x2), (3, .int x), (4, .int (Int32.ofNat m)), (5, .ref (37 + 2 * s)), (6, .int (Int32.ofNat acc)), (7, .int (Int32.ofNat i))] [] (zMm tl q im) (fun a b => a = some (.int (yIbs g z x n i acc V).1) ∧ b = zMm tl' q' im') ∧
        yA tl' q' im' (yIbs g z x n i acc V).2 ∧ tl'.length ≤ tl.length + n ∧ zLs tl' ≤ zLs tl + 4 * n ∧ ∀ k j, k < 72 → ¬ (k = 1 ∧ j = 3) → im' k j = im k j := by
  intro n
  induction n with
  | zero =>
    intro i acc V tl q im hi hG hA h2 hc hl
    refine ⟨tl, q, im, t_X11_islandsByA_34 ⟨fun _ => ⟨rfl, rfl⟩, fun h => absurd ((zi_le (by omega) (by omega)).mpr (show m ≤ i by omega)) h⟩, hA, by omega, by omega, fun _ _ _ _ => rfl⟩
  | succ n ih =>
    intro i acc V tl q im hi hG hA h2 hc hl
    have n1 : ¬ Int32.ofNat m ≤ Int32.ofNat i := fun h => absurd ((zi_le (by omega) (by omega)).mp h) (by omega)
    by_cases hx : x < 0
    · have e : yIbs g z x (n + 1) i acc V = (-12, V) := by
        unfold yIbs
        rw [decide_eq_true hx]
        rfl
      rw [e]
      exact ⟨tl, q, im, t_X11_islandsByA_34 ⟨fun h => absurd h n1, fun _ => ⟨fun _ => ⟨rfl, rfl⟩, fun h => absurd hx h⟩⟩, hA, by omega, by omega, fun _ _ _ _ => rfl⟩
    · cases hr : yRoom z (x + 4 * Int32.ofNat i) 4 with
      | false =>
        have e : yIbs g z x (n + 1) i acc V = (-12, V) := by
          unfold yIbs
          rw [decide_eq_false hx, hr]
          rfl
        rw [e]
        refine ⟨tl, q, im, t_X11_islandsByA_34 ⟨fun h => absurd h n1, fun _ => ⟨fun h => absurd h hx, fun _ => ?_⟩⟩, hA, by omega, by omega, fun _ _ _ _ => rfl⟩
        rw [zB_sh hs]
        refine ⟨_, _, c_hasRoom hs h2, ?_⟩
        rw [hr]
        exact ⟨fun h => absurd rfl h, fun _ => ⟨rfl, rfl⟩⟩
      | true =>
        obtain ⟨p, hp, hpz⟩ := yRoom_4 hz hr
        have w0 : (x + 4 * Int32.ofNat i).toNatClampNeg = p := by rw [hp, zi_n (by omega)]
        have w1 : x + 4 * Int32.ofNat i + 1 = Int32.ofNat (p + 1) := by rw [hp, zi_s]
        have w2 : x + 4 * Int32.ofNat i + 2 = Int32.ofNat (p + 2) := by rw [hp]; exact (Int32.ofNat_add p 2).symm
        have w3 : x + 4 * Int32.ofNat i + 3 = Int32.ofNat (p + 3) := by rw [hp]; exact (Int32.ofNat_add p 3).symm
        obtain ⟨tl1, q1, im1, g1, g2, g3, g4, g5⟩ := c_island (d := d) (a := g p) (b := g (p + 1)) (c := g (p + 2)) (f := g (p + 3)) hG hA (by omega)
        have hG1 := (yG_islA (a := g p) (b := g (p + 1)) (c := g (p + 2)) (e := g (p + 3)) hG).1
        have e : yIbs g z x (n + 1) i acc V = yIbs g z x n (i + 1) (if (yIslA V (g p) (g (p + 1)) (g (p + 2)) (g (p + 3))).1 < 0 then acc else acc + 1) (yIslA V (g p) (g (p + 1)) (g (p + 2)) (g (p + 3))).2 := by
          show (bif !decide (x < 0) && yRoom z (x + 4 * Int32.ofNat i) 4 then _ else _) = _
          rw [decide_eq_false hx, hr, w0]
          rfl
        rw [e]
        obtain ⟨tl2, q2, im2, k1, k2, k3, k4, k5⟩ := ih (i + 1) (if (yIslA V (g p) (g (p + 1)) (g (p + 2)) (g (p + 3))).1 < 0 then acc else acc + 1) (yIslA V (g p) (g (p + 1)) (g (p + 2)) (g (p + 3))).2 tl1 q1 im1 (by omega) hG1 g2 (by rw [g5 _ _ (by omega) (by omega)]; exact h2) (fun j hj => by rw [g5 _ _ (by omega) (by omega)]; exact hc j hj) (by omega)
        refine ⟨tl2, q2, im2, t_X11_islandsByA_34 ⟨fun h => absurd h n1, fun _ => ⟨fun h => absurd h hx, fun _ => ?_⟩⟩, k2, by omega, by omega, fun k j h1 h2 => (k5 k j h1 h2).trans (g5 k j h1 h2)⟩
        rw [zB_sh hs]
        refine ⟨_, _, c_hasRoom hs h2, ?_⟩
        rw [hr]
        refine ⟨fun _ => ?_, fun h => absurd h (by decide)⟩
        show ((zRf q) (37 + 2 * s) 0).elim _ _
        rw [zRf_sc hs]
        show ((zB ++ tl)[38 + 2 * s]?).elim _ _
        rw [zB_sc hs, w1, w2, w3, w0, hp, zi_n (show p + 1 < 2147483648 by omega), zi_n (show p + 2 < 2147483648 by omega), zi_n (show p + 3 < 2147483648 by omega), hc p (by omega), hc (p + 1) (by omega), hc (p + 2) (by omega), hc (p + 3) (by omega), zi_s (a := acc), zi_s (a := i)]
        refine ⟨zi_in (show p < 40 by omega) (by omega), zi_in (show p + 1 < 40 by omega) (by omega), zi_in (show p + 2 < 40 by omega) (by omega), zi_in (show p + 3 < 40 by omega) (by omega), _, tl1, q1, im1, g1, fun h => ?_, fun h => ?_⟩
        · rw [if_pos h] at k1
          rw [if_pos h]
          exact k1
        · rw [if_neg h] at k1
          rw [if_neg h]
          exact k1
theorem m_islby {d s z m : Nat} {g : Nat → Int32} {x2 x : Int32} {tl : List (Nat × Nat)} {q : zR} (hs : s < 4) (hz : z ≤ 40) (hm : m < 7) :
    ∀ (n i acc : Nat) (V : yV) (im : zI), i + n = m → yG V → yB im V → im 60 s = Int32.ofNat z → (∀ j, j < 40 → im 61 (40 * s + j) = g j) →
      ∃ im', zX (d + 6) zc_X12_islandsBy 37 [(0, .ref 47), (1, .int (Int32.ofNat s)), (2, .int x2), (3, .int x), (4, .int (Int32.ofNat m)), (5, .int (Int32.ofNat acc)), (6, .int (Int32.ofNat i))] [] (zMm tl q im) (fun a b => a = some (.int (yIbs g z x n i acc V).1) ∧ b = zMm tl q im') ∧
        yB im' (yIbs g z x n i acc V).2 ∧ ∀ k j, ¬ ((k = 47 ∧ j = 1) ∨ (48 < k ∧ k < 53)) → im' k j = im k j := by
  intro n
  induction n with
  | zero =>
    intro i acc V im hi hG hB h2 hc
    refine ⟨im, t_X12_islandsBy_37 ⟨fun _ => ⟨rfl, rfl⟩, fun h => absurd ((zi_le (by omega) (by omega)).mpr (show m ≤ i by omega)) h⟩, hB, fun _ _ _ => rfl⟩
  | succ n ih =>
    intro i acc V im hi hG hB h2 hc
    have n1 : ¬ Int32.ofNat m ≤ Int32.ofNat i := fun h => absurd ((zi_le (by omega) (by omega)).mp h) (by omega)
    have v4 := zi_in hs (show s < 2147483648 by omega)
    by_cases hx : x < 0
    · have e : yIbs g z x (n + 1) i acc V = (-12, V) := by
        unfold yIbs
        rw [decide_eq_true hx]
        rfl
      rw [e]
      exact ⟨im, t_X12_islandsBy_37 ⟨fun h => absurd h n1, fun _ => ⟨fun _ => ⟨rfl, rfl⟩, fun h => absurd hx h⟩⟩, hB, fun _ _ _ => rfl⟩
    · cases hr : yRoom z (x + 4 * Int32.ofNat i) 4 with
      | false =>
        have e : yIbs g z x (n + 1) i acc V = (-12, V) := by
          unfold yIbs
          rw [decide_eq_false hx, hr]
          rfl
        rw [e]
        refine ⟨im, t_X12_islandsBy_37 ⟨fun h => absurd h n1, fun _ => ⟨fun h => absurd h hx, fun _ => ⟨fun _ => ⟨rfl, rfl⟩, fun e1 => ⟨v4, ?_⟩⟩⟩⟩, hB, fun _ _ _ => rfl⟩
        rw [zi_n (show s < 2147483648 by omega), h2]
        rw [yRoom_m hz (by omega) hx, decide_eq_false e1] at hr
        have e2 : ¬ x + 4 * Int32.ofNat i ≤ Int32.ofNat z - 4 := of_decide_eq_false hr
        exact ⟨fun h => absurd h e2, fun _ => ⟨rfl, rfl⟩⟩
      | true =>
        obtain ⟨p, hp, hpz⟩ := yRoom_4 hz hr
        have w0 : (x + 4 * Int32.ofNat i).toNatClampNeg = p := by rw [hp, zi_n (by omega)]
        have f0 : (40 : Int32) * Int32.ofNat s + (x + 4 * Int32.ofNat i) = Int32.ofNat (40 * s + p) := by
          rw [hp, show (40 : Int32) * Int32.ofNat s = Int32.ofNat (40 * s) from (Int32.ofNat_mul 40 s).symm, ← Int32.ofNat_add]
        have f1 : Int32.ofNat (40 * s + p) + 1 = Int32.ofNat (40 * s + (p + 1)) := zi_s
        have f2 : Int32.ofNat (40 * s + p) + 2 = Int32.ofNat (40 * s + (p + 2)) := (Int32.ofNat_add (40 * s + p) 2).symm
        have f3 : Int32.ofNat (40 * s + p) + 3 = Int32.ofNat (40 * s + (p + 3)) := (Int32.ofNat_add (40 * s + p) 3).symm
        obtain ⟨im1, g1, g2, g5⟩ := m_island (d := d) (a := g p) (b := g (p + 1)) (c := g (p + 2)) (f := g (p + 3)) (tl := tl) (q := q) hG hB
        have hG1 := (yG_islA (a := g p) (b := g (p + 1)) (c := g (p + 2)) (e := g (p + 3)) hG).1
        have e : yIbs g z x (n + 1) i acc V = yIbs g z x n (i + 1) (if (yIslA V (g p) (g (p + 1)) (g (p + 2)) (g (p + 3))).1 < 0 then acc else acc + 1) (yIslA V (g p) (g (p + 1)) (g (p + 2)) (g (p + 3))).2 := by
          show (bif !decide (x < 0) && yRoom z (x + 4 * Int32.ofNat i) 4 then _ else _) = _
          rw [decide_eq_false hx, hr, w0]
          rfl
        rw [e]
        obtain ⟨im2, k1, k2, k5⟩ := ih (i + 1) (if (yIslA V (g p) (g (p + 1)) (g (p + 2)) (g (p + 3))).1 < 0 then acc else acc + 1) (yIslA V (g p) (g (p + 1)) (g (p + 2)) (g (p + 3))).2 im1 (by omega) hG1 g2 (by rw [g5 _ _ (by omega)]; exact h2) (fun j hj => by rw [g5 _ _ (by omega)]; exact hc j hj)
        rw [yRoom_m hz (by omega) hx, Bool.and_eq_true, Bool.not_eq_true', decide_eq_false_iff_not, decide_eq_true_eq] at hr
        refine ⟨im2, t_X12_islandsBy_37 ⟨fun h => absurd h n1, fun _ => ⟨fun h => absurd h hx, fun _ => ⟨fun h => absurd h hr.1, fun _ => ⟨v4, ?_⟩⟩⟩⟩, k2, fun k j h1 => (k5 k j h1).trans (g5 k j h1)⟩
        rw [zi_n (show s < 2147483648 by omega), h2]
        refine ⟨fun _ => ?_, fun h => absurd hr.2 h⟩
        rw [f0, f1, f2, f3, zi_n (show 40 * s + p < 2147483648 by omega), zi_n (show 40 * s + (p + 1) < 2147483648 by omega), zi_n (show 40 * s + (p + 2) < 2147483648 by omega), zi_n (show 40 * s + (p + 3) < 2147483648 by omega), hc p (by omega), hc (p + 1) (by omega), hc (p + 2) (by omega), hc (p + 3) (by omega), Int32.add_zero, zi_s (a := acc), zi_s (a := i)]
        refine ⟨zi_in (by omega) (by omega), zi_in (by omega) (by omega), zi_in (by omega) (by omega), zi_in (by omega) (by omega), _, im1, g1, fun h => ?_, fun h => ?_⟩
        · rw [if_pos h] at k1
          rw [if_pos h]
          exact k1
        · rw [if_neg h] at k1
          rw [if_neg h]
          exact k1
theorem k_islandsBy {d : Nat} {a b c f : Int32} {tl : List (Nat × Nat)} {q : zR} {im : zI} {V : yV} {U : yU} (hI : yInv tl q im V U) (hl : tl.length + 6 < 100000) : yCallA (d + 10) 106 221 [.int a, .int b, .int c, .int f] tl q im := by
  obtain ⟨⟨hG, hA, hB⟩, hH, hm⟩ := id hI
  have bad : ∀ v : Int32, zEv (d + 10) 106 [.ref 0, .int a, .int b, .int c, .int f] (zMm tl q im) (some (.int v)) (zMm tl q im) → zEv (d + 10) 221 [.ref 47, .int a, .int b, .int c, .int f] (zMm tl q im) (some (.int v)) (zMm tl q im) → yCallA (d + 10) 106 221 [.int a, .int b, .int c, .int f] tl q im := fun v h1 h2 => ⟨v, tl, q, im, im, h1, h2, ⟨V, U, hI⟩, by omega, by omega⟩
  cases h1 : bW a 3 with
  | false => exact bad _ (zEv_o rfl (t_X11_islandsByA ⟨_, _, cS_f h1, fun _ => ⟨rfl, rfl⟩, fun e => absurd rfl e⟩)) (zEv_o rfl (t_X12_islandsBy ⟨_, _, mW_f (m := 3) h1, fun _ => ⟨rfl, rfl⟩, fun e => absurd rfl e⟩))
  | true =>
    cases h2 : bW b 2 with
    | false => exact bad _ (zEv_o rfl (t_X11_islandsByA ⟨_, _, cS_t h1, fun e => absurd e n10, fun _ => ⟨_, _, cW_f (m := 2) h2, fun _ => ⟨rfl, rfl⟩, fun e => absurd rfl e⟩⟩)) (zEv_o rfl (t_X12_islandsBy ⟨_, _, mW_t (m := 3) h1, fun e => absurd e n10, fun _ => ⟨_, _, mW_f (m := 2) h2, fun _ => ⟨rfl, rfl⟩, fun e => absurd rfl e⟩⟩))
    | true =>
      cases h3 : bW f 6 with
      | false => exact bad _ (zEv_o rfl (t_X11_islandsByA ⟨_, _, cS_t h1, fun e => absurd e n10, fun _ => ⟨_, _, cW_t (m := 2) h2, fun e => absurd e n10, fun _ => ⟨_, _, cW_f (m := 6) h3, fun e => absurd rfl e, fun _ => ⟨rfl, rfl⟩⟩⟩⟩)) (zEv_o rfl (t_X12_islandsBy ⟨_, _, mW_t (m := 3) h1, fun e => absurd e n10, fun _ => ⟨_, _, mW_t (m := 2) h2, fun e => absurd e n10, fun _ => ⟨_, _, mW_f (m := 6) h3, fun e => absurd rfl e, fun _ => ⟨rfl, rfl⟩⟩⟩⟩))
      | true =>
        obtain ⟨s, hs, rfl⟩ := bW_ex (by decide) h1
        obtain ⟨m, hm7, rfl⟩ := bW_ex (by decide) h3
        have hs4 : s < 4 := hs
        have v4 := zi_in hs4 (show s < 2147483648 by omega)
        obtain ⟨s1, s2, s3, s4, s5, s6, s7⟩ := hH.2.1 s hs4
        by_cases e1 : yuS U s = -1
        · refine bad (-11) (zEv_o rfl (t_X11_islandsByA ⟨_, _, cS_t h1, fun e => absurd e n10, fun _ => ⟨_, _, cW_t (m := 2) h2, fun e => absurd e n10, fun _ => ⟨_, _, cW_t (m := 6) h3, fun _ => ⟨v4, ?_⟩, fun e => absurd e n10⟩⟩⟩)) (zEv_o rfl (t_X12_islandsBy ⟨_, _, mW_t (m := 3) h1, fun e => absurd e n10, fun _ => ⟨_, _, mW_t (m := 2) h2, fun e => absurd e n10, fun _ => ⟨_, _, mW_t (m := 6) h3, fun _ => ⟨v4, ?_⟩, fun e => absurd e n10⟩⟩⟩))
          · rw [zi_n (show s < 2147483648 by omega), zRf_sh hs4]
            show ((zB ++ tl)[37 + 2 * s]?).elim _ _
            rw [zB_sh hs4, s1]
            exact ⟨fun e => absurd e1 e, fun _ => ⟨rfl, rfl⟩⟩
          · rw [zi_n (show s < 2147483648 by omega), s5]
            exact ⟨fun e => absurd e1 e, fun _ => ⟨rfl, rfl⟩⟩
        · by_cases e2 : yuS U s = b
          · obtain ⟨tl', q', im1, c1, c2, c3, c4, c5⟩ := c_islby (d := d + 3) (g := yuC U s) (x1 := Int32.ofNat s) (x2 := b) (x := c) hs4 s3 hm7 m 0 0 V tl q im (by omega) hG hA s2 s4 (by omega)
            have hB1 : yB im1 V := yB_ag hB (fun j hj => c5 47 j (by omega) (by omega)) (fun k h1 h2 => funext fun j => c5 k j (by omega) (by omega)) (funext fun j => c5 55 j (by omega) (by omega)) (funext fun j => c5 56 j (by omega) (by omega))
            obtain ⟨im2, m1, m2, m3⟩ := m_islby (d := d + 3) (g := yuC U s) (x2 := b) (x := c) (tl := tl') (q := q') hs4 s3 hm7 m 0 0 V im1 (by omega) hG hB1 (by rw [c5 60 s (by omega) (by omega)]; exact s6) (fun j hj => by rw [c5 61 _ (by omega) (by omega)]; exact s7 j hj)
            obtain ⟨i1, i2, i3⟩ := yIbs_g (g := yuC U s) (z := yuZ U s) (x := c) m 0 0 V hG
            refine ⟨(yIbs (yuC U s) (yuZ U s) c m 0 0 V).1, tl', q', im1, im2, zEv_o rfl (t_X11_islandsByA ⟨_, _, cS_t h1, fun e => absurd e n10, fun _ => ⟨_, _, cW_t (m := 2) h2, fun e => absurd e n10, fun _ => ⟨_, _, cW_t (m := 6) h3, fun _ => ⟨v4, ?_⟩, fun e => absurd e n10⟩⟩⟩), zEv_o rfl (t_X12_islandsBy ⟨_, _, mW_t (m := 3) h1, fun e => absurd e n10, fun _ => ⟨_, _, mW_t (m := 2) h2, fun e => absurd e n10, fun _ => ⟨_, _, mW_t (m := 6) h3, fun _ => ⟨v4, ?_⟩, fun e => absurd e n10⟩⟩⟩), ⟨(yIbs (yuC U s) (yuZ U s) c m 0 0 V).2, U, ⟨i1, ?_, m2⟩, ?_, yIm_le hm i2 (Nat.le_of_eq i3.symm)⟩, by omega, by omega⟩
            · rw [zi_n (show s < 2147483648 by omega), zRf_sh hs4]
              show ((zB ++ tl)[37 + 2 * s]?).elim _ _
              rw [zB_sh hs4, s1]
              refine ⟨fun _ => ?_, fun e => absurd e e1⟩
              exact ⟨fun _ => c1, fun e => absurd e2 e⟩
            · rw [zi_n (show s < 2147483648 by omega), c5 59 s (by omega) (by omega), s5]
              exact ⟨fun _ => ⟨v4, fun _ => m1, fun e => absurd e2 e⟩, fun e => absurd e e1⟩
            · exact yA_ag c2 (m3 0 5 (by omega)) (fun k h1 h2 => funext fun j => m3 k j (by omega)) (fun k hk => funext fun j => m3 k j (by omega))
            · exact yH_ag hH (fun k j hu => by unfold yUc at hu; rw [m3 k j (by omega), c5 k j (by omega) (by omega)])
          · refine bad (-13) (zEv_o rfl (t_X11_islandsByA ⟨_, _, cS_t h1, fun e => absurd e n10, fun _ => ⟨_, _, cW_t (m := 2) h2, fun e => absurd e n10, fun _ => ⟨_, _, cW_t (m := 6) h3, fun _ => ⟨v4, ?_⟩, fun e => absurd e n10⟩⟩⟩)) (zEv_o rfl (t_X12_islandsBy ⟨_, _, mW_t (m := 3) h1, fun e => absurd e n10, fun _ => ⟨_, _, mW_t (m := 2) h2, fun e => absurd e n10, fun _ => ⟨_, _, mW_t (m := 6) h3, fun _ => ⟨v4, ?_⟩, fun e => absurd e n10⟩⟩⟩))
            · rw [zi_n (show s < 2147483648 by omega), zRf_sh hs4]
              show ((zB ++ tl)[37 + 2 * s]?).elim _ _
              rw [zB_sh hs4, s1]
              refine ⟨fun _ => ?_, fun e => absurd e e1⟩
              exact ⟨fun e => absurd e e2, fun _ => ⟨rfl, rfl⟩⟩
            · rw [zi_n (show s < 2147483648 by omega), s5]
              exact ⟨fun _ => ⟨v4, fun e => absurd e e2, fun _ => ⟨rfl, rfl⟩⟩, fun e => absurd e e1⟩
