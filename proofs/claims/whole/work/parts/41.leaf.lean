/-! LEAVES: what the small methods answer -/
theorem c_isByte {d : Nat} {tl : List (Nat × Nat)} {q : zR} {im : zI} {v : Int32} : zEv (d + 2) 109 [.int v] (zMm tl q im) (some (.int (zb (decide (0 ≤ v) && decide (v ≤ 255))))) (zMm tl q im) :=
  zEv_o rfl (t_X11_isByte ⟨_, _, c_isWithin, zb_or, rfl, rfl⟩)
theorem c_isSheet {d : Nat} {tl : List (Nat × Nat)} {q : zR} {im : zI} {v : Int32} : zEv (d + 2) 111 [.int v] (zMm tl q im) (some (.int (zb (decide (0 ≤ v) && decide (v ≤ 3))))) (zMm tl q im) :=
  zEv_o rfl (t_X11_isSheet ⟨_, _, c_isWithin, zb_or, rfl, rfl⟩)
theorem c_isOne {d : Nat} {tl : List (Nat × Nat)} {q : zR} {im : zI} {v : Int32} : zEv (d + 1) 112 [.ref 0, .int v] (zMm tl q im) (some (.int (zb (decide (0 ≤ v) && decide (v < im 1 2))))) (zMm tl q im) := by
  refine zEv_o rfl (t_X11_isOne ?_)
  (repeat' (first | apply And.intro | intro _)) <;> first | rfl | (simp_all [zb, -Int32.not_le, ← Int32.not_le])
theorem c_isIsland {d : Nat} {tl : List (Nat × Nat)} {q : zR} {im : zI} {v : Int32} : zEv (d + 1) 113 [.ref 0, .int v] (zMm tl q im) (some (.int (zb (decide (0 ≤ v) && decide (v < im 1 3))))) (zMm tl q im) := by
  refine zEv_o rfl (t_X11_isIsland ?_)
  (repeat' (first | apply And.intro | intro _)) <;> first | rfl | (simp_all [zb, -Int32.not_le, ← Int32.not_le])
theorem c_everybody {d : Nat} {tl : List (Nat × Nat)} {q : zR} {im : zI} : zEv (d + 1) 114 [.ref 0] (zMm tl q im) (some (.int (((1 : Int32) <<< ((im 1 2) &&& 31)) - (1 : Int32)))) (zMm tl q im) :=
  zEv_o rfl (t_X11_everybody ⟨rfl, rfl⟩)
theorem c_name {d : Nat} {tl : List (Nat × Nat)} {q : zR} {im : zI} {a1 a2 a3 a4 a5 a6 : Int32} : zEv (d + 1) 120 [.ref 0, .int a1, .int a2, .int a3, .int a4, .int a5, .int a6] (zMm tl q im) none (zMm tl q (up2 (up2 (up2 (up2 (up2 (up2 im 33 0 a1) 33 1 a2) 33 2 a3) 33 3 a4) 33 4 a5) 33 5 a6)) :=
  zEv_o rfl (t_X11_name ⟨rfl, rfl⟩)
/-- the class's join of two -/
def zJoin (s a b : Int32) : Int32 :=
  if s = -26 then a - b else if s = -25 then a + b else if s = -24 then zb (decide (a = b)) else if s = -23 then zb (decide (a < b)) else if s = -22 then zb (!decide (a = 0) && !decide (b = 0)) else if s = -21 then zb (!decide (a = 0) || !decide (b = 0)) else a * b
theorem c_join {d : Nat} {tl : List (Nat × Nat)} {q : zR} {im : zI} {s a b : Int32} : zEv (d + 1) 41 [.int s, .int a, .int b] (zMm tl q im) (some (.int (zJoin s a b))) (zMm tl q im) := by
  refine zEv_o rfl (t_X8_join ?_)
  unfold zJoin
  (repeat' (first | apply And.intro | intro _)) <;> first | rfl | (simp_all [zb, -Int32.not_le, ← Int32.not_le])
/-! of the Model -/
theorem m_in {d : Nat} {tl : List (Nat × Nat)} {q : zR} {im : zI} {v a b : Int32} : zEv (d + 1) 136 [.int v, .int a, .int b] (zMm tl q im) (some (.int (zb (decide (a ≤ v) && decide (v ≤ b))))) (zMm tl q im) := by
  refine zEv_o rfl (t_X12_in ?_)
  (repeat' (first | apply And.intro | intro _)) <;> first | rfl | (simp_all [zb, -Int32.not_le, ← Int32.not_le])
/-- v, within -/
def zWithin (v a b : Int32) : Int32 := if a ≤ v then (if v ≤ b then v else b) else a
theorem m_within {d : Nat} {tl : List (Nat × Nat)} {q : zR} {im : zI} {v a b : Int32} : zEv (d + 1) 137 [.int v, .int a, .int b] (zMm tl q im) (some (.int (zWithin v a b))) (zMm tl q im) := by
  refine zEv_o rfl (t_X12_within ?_)
  unfold zWithin
  (repeat' (first | apply And.intro | intro _)) <;> first | rfl | (simp_all [-Int32.not_le, ← Int32.not_le])
theorem m_isTide {d : Nat} {tl : List (Nat × Nat)} {q : zR} {im : zI} {v : Int32} : zEv (d + 2) 138 [.int v] (zMm tl q im) (some (.int (zb (decide (0 ≤ v) && decide (v ≤ 11))))) (zMm tl q im) :=
  zEv_o rfl (t_X12_isTide ⟨_, _, m_in, zb_or, rfl, rfl⟩)
theorem m_isByte {d : Nat} {tl : List (Nat × Nat)} {q : zR} {im : zI} {v : Int32} : zEv (d + 2) 147 [.int v] (zMm tl q im) (some (.int (zb (decide (0 ≤ v) && decide (v ≤ 255))))) (zMm tl q im) :=
  zEv_o rfl (t_X12_isByte ⟨_, _, m_in, zb_or, rfl, rfl⟩)
theorem m_isIsland {d : Nat} {tl : List (Nat × Nat)} {q : zR} {im : zI} {v : Int32} : zEv (d + 2) 139 [.ref 47, .int v] (zMm tl q im) (some (.int (zb (decide (0 ≤ v) && decide (v ≤ im 47 1 - 1))))) (zMm tl q im) :=
  zEv_o rfl (t_X12_isIsland ⟨_, _, m_in, zb_or, rfl, rfl⟩)
theorem m_isOne {d : Nat} {tl : List (Nat × Nat)} {q : zR} {im : zI} {v : Int32} : zEv (d + 2) 140 [.ref 47, .int v] (zMm tl q im) (some (.int (zb (decide (0 ≤ v) && decide (v ≤ im 47 6 - 1))))) (zMm tl q im) :=
  zEv_o rfl (t_X12_isOne ⟨_, _, m_in, zb_or, rfl, rfl⟩)
theorem m_everybody {d : Nat} {tl : List (Nat × Nat)} {q : zR} {im : zI} : zEv (d + 1) 191 [.ref 47] (zMm tl q im) (some (.int (((1 : Int32) <<< ((im 47 6) &&& 31)) - (1 : Int32)))) (zMm tl q im) :=
  zEv_o rfl (t_X12_everybody ⟨rfl, rfl⟩)
/-- the Model's join of two -/
def zTwo (s a b : Int32) : Int32 :=
  if s = 11 then zb (!decide (a = 0) || !decide (b = 0)) else if s = 12 then zb (!decide (a = 0) && !decide (b = 0)) else if s = 14 then zb (decide (a < b)) else if s = 15 then zb (decide (a = b)) else if s = 16 then a + b else if s = 17 then a - b else a * b
theorem m_two {d : Nat} {tl : List (Nat × Nat)} {q : zR} {im : zI} {s a b : Int32} : zEv (d + 1) 160 [.int s, .int a, .int b] (zMm tl q im) (some (.int (zTwo s a b))) (zMm tl q im) := by
  refine zEv_o rfl (t_X12_two ?_)
  unfold zTwo
  (repeat' (first | apply And.intro | intro _)) <;> first | rfl | (simp_all [zb, -Int32.not_le, ← Int32.not_le])
theorem zi_pre {a : Nat} {v : Int32} (ha : a < 2147483648) : v ≤ Int32.ofNat a - 1 ↔ v < Int32.ofNat a := by
  rw [Int32.le_iff_toInt_le, Int32.lt_iff_toInt_lt]
  cases a with
  | zero =>
    have h1 : (Int32.ofNat 0 - 1).toInt = -1 := by decide
    have h2 : (Int32.ofNat 0).toInt = 0 := by decide
    rw [h1, h2]
    omega
  | succ a =>
    have h1 : Int32.ofNat (a + 1) - 1 = Int32.ofNat a := by
      rw [Int32.ofNat_add]
      exact Int32.add_sub_cancel _ _
    rw [h1, Int32.toInt_ofNat_of_lt (by omega), Int32.toInt_ofNat_of_lt ha]
    omega
