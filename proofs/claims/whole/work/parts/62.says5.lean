/-! SAYS, of the class -/
theorem yClamp {v h : Int32} (hh : 0 < h) : (if (0 : Int32) < (if h < v then h else v) then (if h < v then h else v) else (0 : Int32)) = zWithin v 0 h := by
  unfold zWithin
  by_cases a : h < v
  · rw [if_pos a, if_pos hh, if_pos (Int32.le_of_lt (Int32.lt_trans hh a)), if_neg (Int32.not_le.mpr a)]
  · rw [if_neg a]
    have a' := Int32.not_lt.mp a
    by_cases b : 0 < v
    · rw [if_pos b, if_pos (Int32.le_of_lt b), if_pos a']
    · rw [if_neg b]
      by_cases e : 0 ≤ v
      · rw [if_pos e, if_pos a']
        exact Int32.le_antisymm e (Int32.not_lt.mp b)
      · rw [if_neg e]
theorem c_saysOf {d r part : Nat} {tl : List (Nat × Nat)} {q : zR} {im : zI} {T : Nat → List Nat} {nm : Nat → Int32} (hp : part < 3) (hT : yCx tl q im r T) (h33 : ∀ j, j < 6 → im 33 j = nm j) :
    ∃ im', zEv (d + 3) 121 [.ref 0, .ref r, .int (Int32.ofNat part)] (zMm tl q im) (some (.int (yAsk T part nm))) (zMm tl q im') ∧ (∀ k, k ≠ 34 → im' k = im k) := by
  obtain ⟨im', g1, g2⟩ := c_valueOf (d := d) hp hT h33
  obtain ⟨L8, cc, len, hr, _⟩ := hT
  refine ⟨im', zEv_o rfl (t_X11_saysOf ?_), g2⟩
  rw [hr]
  have e2 : Int32.ofNat part = (2 : Int32) ↔ part = 2 := zi_eq (b := 2) (by omega) (by omega)
  refine ⟨_, _, g1, ?_⟩
  rw [e2]
  unfold yAsk
  refine ⟨fun h => ⟨?_, rfl⟩, fun h => ⟨?_, rfl⟩⟩
  · rw [if_neg h, yClamp (by decide)]
  · rw [if_pos h, yClamp (by decide)]
