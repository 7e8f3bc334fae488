/-! INTS: small numbers as Int32 -/
theorem zi_n {k : Nat} (h : k < 2147483648) : (Int32.ofNat k).toNatClampNeg = k := Int32.toNatClampNeg_ofNat_of_lt h
theorem zi_lt {a b : Nat} (ha : a < 2147483648) (hb : b < 2147483648) : Int32.ofNat a < Int32.ofNat b ↔ a < b := Int32.ofNat_lt_iff_lt ha hb
theorem zi_le {a b : Nat} (ha : a < 2147483648) (hb : b < 2147483648) : Int32.ofNat a ≤ Int32.ofNat b ↔ a ≤ b := Int32.ofNat_le_iff_le ha hb
theorem zi_ge0 {a : Nat} (ha : a < 2147483648) : (0 : Int32) ≤ Int32.ofNat a := Int32.zero_le_ofNat_of_lt ha
theorem zi_neg {a : Nat} (ha : a < 2147483648) : ¬ Int32.ofNat a < 0 := Int32.not_lt.mpr (zi_ge0 ha)
theorem zi_eq {a b : Nat} (ha : a < 2147483648) (hb : b < 2147483648) : Int32.ofNat a = Int32.ofNat b ↔ a = b := by
  constructor
  · intro h
    have := congrArg Int32.toNatClampNeg h
    rwa [zi_n ha, zi_n hb] at this
  · intro h
    rw [h]
theorem zi_in {a n : Nat} (h : a < n) (ha : a < 2147483648) : vp_in (Int32.ofNat a) n := by
  show ¬ (Int32.ofNat a < 0 ∨ n ≤ (Int32.ofNat a).toNatClampNeg)
  rw [zi_n ha]
  intro hh
  rcases hh with hh | hh
  · exact zi_neg ha hh
  · omega
theorem zi_s {a : Nat} : Int32.ofNat a + 1 = Int32.ofNat (a + 1) := (Int32.ofNat_add a 1).symm
theorem zi_ex {x : Int32} (h : ¬ x < 0) : x = Int32.ofNat x.toNatClampNeg := (Int32.ofNat_toNatClampNeg x (Int32.not_lt.mp h)).symm
theorem zi_ex2 {x : Int32} {n : Nat} (h : ¬ x < 0) (h2 : x < Int32.ofNat n) (hn : n < 2147483648) : ∃ k, k < n ∧ x = Int32.ofNat k := by
  have e := zi_ex h
  refine ⟨x.toNatClampNeg, ?_, e⟩
  rw [e, zi_lt (Int32.toNatClampNeg_lt x) hn] at h2
  exact h2
theorem zi_m1 {a : Nat} (ha : a < 2147483648) : ¬ Int32.ofNat a = (-1 : Int32) := by
  intro h
  have h1 : Int32.ofNat a < 0 := by rw [h]; decide
  exact zi_neg ha h1
/-- a truth as 0 or 1 -/
def zb (b : Bool) : Int32 := bif b then 1 else 0
theorem zb_or {b : Bool} : zb b = 0 ∨ zb b = 1 := by cases b <;> simp [zb]
theorem zb_1 {b : Bool} : zb b = 1 ↔ b = true := by cases b <;> simp [zb]
theorem zb_0 {b : Bool} : zb b = 0 ↔ b = false := by cases b <;> simp [zb]
theorem zEv_o {d key : Nat} {as : List Value} {μ : zM} {v : Option Value} {μ' : zM} (hl : Nat.ble (lg_sl as).length (zml key) = true) (h : zX d (zCodes.getD key []) 0 (lv_args 0 as) [] μ (fun a b => a = v ∧ b = μ')) : zEv (d + 1) key as μ v μ' := zEv_of (Nat.le_of_ble_eq_true hl) h
/-- a call that answers a truth and changes nothing -/
theorem c_isWithin {d : Nat} {tl : List (Nat × Nat)} {q : zR} {im : zI} {v m : Int32} : zEv (d + 1) 108 [.int v, .int m] (zMm tl q im) (some (.int (zb (decide (0 ≤ v) && decide (v ≤ m))))) (zMm tl q im) := by
  refine zEv_o rfl (t_X11_isWithin ⟨fun h => ⟨?_, rfl⟩, fun h => ⟨fun h2 => ⟨?_, rfl⟩, fun h2 => ⟨?_, rfl⟩⟩⟩)
  · rw [decide_eq_false (Int32.not_le.mpr h)]; rfl
  · rw [decide_eq_false (Int32.not_le.mpr h2), Bool.and_false]; rfl
  · rw [decide_eq_true (Int32.not_lt.mp h), decide_eq_true (Int32.not_lt.mp h2)]; rfl
theorem c_isTide {d : Nat} {tl : List (Nat × Nat)} {q : zR} {im : zI} {v : Int32} : zEv (d + 2) 110 [.int v] (zMm tl q im) (some (.int (zb (decide (0 ≤ v) && decide (v ≤ 11))))) (zMm tl q im) :=
  zEv_o rfl (t_X11_isTide ⟨_, _, c_isWithin, zb_or, rfl, rfl⟩)
