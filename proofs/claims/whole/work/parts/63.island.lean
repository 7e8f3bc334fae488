/-! ISLANDS: kinds -/
/-- the class number of a kind -/
def yTag (k : Nat) : Nat := if k = 1 then 2 else if k = 2 then 4 else if k = 3 then 10 else if k = 4 then 5 else if k = 5 then 0 else 3
/-- an island in the class's cells -/
def yIs (tl : List (Nat × Nat)) (im : zI) (r : Nat) (kd : Nat) (td rs mr : Int32) : Prop :=
  ∃ L, (zB ++ tl)[r]? = some (yTag kd, L) ∧ (r < 21 ∨ 36 < r) ∧ kd < 6 ∧ im r 0 = Int32.ofNat kd ∧ im r 1 = td ∧ im r 2 = rs ∧ im r 3 = mr
def yWt (kd : Nat) (mr said t : Int32) : Int32 := if kd = 1 then said + mr * t else if kd = 3 then 2 * (said + mr * t) + 1 else if kd = 4 then (if mr ≤ t then 0 else said + 5) else said
def ySt (kd : Nat) (rs h : Int32) : Bool := if kd = 2 ∨ kd = 4 then decide (h ≤ rs) else true
def yJo (kd : Nat) (rs mr h : Int32) : Int32 := if kd = 5 then (if rs ≤ h then -1 else mr - mr / 6 * 6) else -1
theorem c_worthAt {d r kd : Nat} {tl : List (Nat × Nat)} {q : zR} {im : zI} {td rs mr said t : Int32} (h : yIs tl im r kd td rs mr) : zEv (d + 2) (zDyn 8 (yTag kd)) [.ref r, .int said, .int t] (zMm tl q im) (some (.int (yWt kd mr said t))) (zMm tl q im) := by
  obtain ⟨L, hr, _, hk, h0, h1, h2, h3⟩ := h
  match kd, hk with
  | 0, _ => exact zEv_o rfl (t_X3_worthAt ⟨rfl, rfl⟩)
  | 1, _ =>
    refine zEv_o rfl (t_X2_worthAt ?_)
    rw [hr, h3]
    exact ⟨rfl, rfl⟩
  | 2, _ => exact zEv_o rfl (t_X3_worthAt ⟨rfl, rfl⟩)
  | 3, _ =>
    refine zEv_o rfl (t_X10_worthAt ?_)
    rw [hr]
    refine ⟨said + mr * t, im, zEv_o rfl (t_X2_worthAt ?_), rfl, rfl⟩
    rw [hr, h3]
    exact ⟨rfl, rfl⟩
  | 4, _ =>
    refine zEv_o rfl (t_X5_worthAt ?_)
    rw [hr, h3]
    refine ⟨fun h => ⟨?_, rfl⟩, fun h => ⟨said, im, zEv_o rfl (t_X3_worthAt ⟨rfl, rfl⟩), ?_, rfl⟩⟩
    · show some (Value.int 0) = some (.int (if mr ≤ t then 0 else said + 5))
      rw [if_pos h]
    · show some (Value.int (said + 5)) = some (.int (if mr ≤ t then 0 else said + 5))
      rw [if_neg h]
  | 5, _ => exact zEv_o rfl (t_X3_worthAt ⟨rfl, rfl⟩)
theorem c_standsAt {d r kd : Nat} {tl : List (Nat × Nat)} {q : zR} {im : zI} {td rs mr hi : Int32} (h : yIs tl im r kd td rs mr) : zEv (d + 1) (zDyn 7 (yTag kd)) [.ref r, .int hi] (zMm tl q im) (some (.int (zb (ySt kd rs hi)))) (zMm tl q im) := by
  obtain ⟨L, hr, _, hk, h0, h1, h2, h3⟩ := h
  have low : ∀ tg, (zB ++ tl)[r]? = some (tg, L) → zSub tg 4 = true → zEv (d + 1) 11 [.ref r, .int hi] (zMm tl q im) (some (.int (zb (decide (hi ≤ rs))))) (zMm tl q im) := by
    intro tg hr hs
    refine zEv_o rfl (t_X4_standsAt ?_)
    rw [hr]
    show bif zSub tg 4 then _ else _
    rw [hs, cond_true, h2]
    refine ⟨fun h => ⟨?_, rfl⟩, fun h => ⟨?_, rfl⟩⟩
    · rw [decide_eq_false (Int32.not_le.mpr h)]; rfl
    · rw [decide_eq_true (Int32.not_lt.mp h)]; rfl
  match kd, hk with
  | 0, _ => exact zEv_o rfl (t_X3_standsAt ⟨rfl, rfl⟩)
  | 1, _ => exact zEv_o rfl (t_X3_standsAt ⟨rfl, rfl⟩)
  | 2, _ => exact low _ hr rfl
  | 3, _ => exact zEv_o rfl (t_X3_standsAt ⟨rfl, rfl⟩)
  | 4, _ => exact low _ hr rfl
  | 5, _ => exact zEv_o rfl (t_X3_standsAt ⟨rfl, rfl⟩)
theorem c_joinsAt {d r kd : Nat} {tl : List (Nat × Nat)} {q : zR} {im : zI} {td rs mr hi : Int32} (h : yIs tl im r kd td rs mr) : zEv (d + 1) (zDyn 9 (yTag kd)) [.ref r, .int hi] (zMm tl q im) (some (.int (yJo kd rs mr hi))) (zMm tl q im) := by
  obtain ⟨L, hr, _, hk, h0, h1, h2, h3⟩ := h
  match kd, hk with
  | 0, _ => exact zEv_o rfl (t_X3_joinsAt ⟨rfl, rfl⟩)
  | 1, _ => exact zEv_o rfl (t_X3_joinsAt ⟨rfl, rfl⟩)
  | 2, _ => exact zEv_o rfl (t_X3_joinsAt ⟨rfl, rfl⟩)
  | 3, _ => exact zEv_o rfl (t_X3_joinsAt ⟨rfl, rfl⟩)
  | 4, _ => exact zEv_o rfl (t_X3_joinsAt ⟨rfl, rfl⟩)
  | 5, _ =>
    refine zEv_o rfl (t_X0_joinsAt ?_)
    rw [hr, h2, h3]
    refine ⟨fun h => ⟨?_, rfl⟩, fun h => ?_⟩
    · show some (Value.int (-1)) = some (.int (if rs ≤ hi then -1 else mr - mr / 6 * 6))
      rw [if_pos h]
    · show some (Value.int (mr - mr / 6 * 6)) = some (.int (if rs ≤ hi then -1 else mr - mr / 6 * 6)) ∧ _
      rw [if_neg h]
      exact ⟨rfl, rfl⟩
